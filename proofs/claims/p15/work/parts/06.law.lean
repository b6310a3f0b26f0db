theorem am_cell {L : Nat} {xs : Nat → Int32} {post : Int32 → Prop} (hL : L ≤ 260) {y : Int32} {j : Nat} (hy : y = nI j) (hj : j < 2 ^ 31) (h : ∀ v, post v) : wpL_cell post L xs () y := by
  subst hy
  by_cases e : L ≤ j
  · exact br_t (nI_le e hj) (h 0)
  · exact br_f (nI_ge (by omega) (by omega)) ⟨vp_in_nI (by omega) (by omega), h _⟩
theorem am_opFor {post : Int32 → Prop} (h : ∀ v, post v) (x : Int32) : wpL_opFor post () x := by
  simp only [wpL_opFor, h, implies_true, and_self]
theorem am_argFor {post : Int32 → Prop} {z : Int32} (hz : ¬ z = 0) (h : ∀ v, post v) (x y : Int32) : wpL_argFor post () x y z := by
  simp only [wpL_argFor, h, hz, not_false_eq_true, implies_true, and_self]
def am_cn (fk fa : Nat → Int32) (u r : Nat) : Nat → Nat
  | 0 => 0
  | i + 1 => if fk (u * 8 + i) = 3 ∧ fa (u * 8 + i) = nI r then am_cn fk fa u r i + 1 else am_cn fk fa u r i
theorem am_cn_0 {fk fa : Nat → Int32} {u r : Nat} : ∀ d, (∀ j, j < d → ¬ (fk (u * 8 + j) = 3 ∧ fa (u * 8 + j) = nI r)) → am_cn fk fa u r d = 0 := by
  intro d
  induction d with
  | zero => exact fun _ => rfl
  | succ d ih =>
    intro h
    rw [am_cn, if_neg (h d (by omega))]
    exact ih fun j hj => h j (by omega)
theorem am_cn_1 {fk fa : Nat → Int32} {u r i : Nat} (hi : fk (u * 8 + i) = 3 ∧ fa (u * 8 + i) = nI r) : ∀ d, i < d → (∀ j, j < d → fk (u * 8 + j) = 3 ∧ fa (u * 8 + j) = nI r → j = i) → am_cn fk fa u r d = 1 := by
  intro d
  induction d with
  | zero => exact fun h => absurd h (Nat.not_lt_zero i)
  | succ d ih =>
    intro h g
    by_cases e : i = d
    · subst e
      rw [am_cn, if_pos hi, am_cn_0 i fun j hj w => absurd (g j (by omega) w) (by omega)]
    · rw [am_cn, if_neg fun w => e (g d (by omega) w).symm]
      exact ih (by omega) fun j hj => g j (by omega)
section
variable {b C Z N M t p d : Nat} {co ca st pc mk ex sd fd pn sk fk fa fs pd ho aq rl : Nat → Int32}
theorem am_gr {r : Nat} (hr : r < 8) {post : Int32 → Prop} : (post (ho r) → wpX_getResource post (nI C, nI Z, nI N, nI M, co, ca, st, pc, mk, ex, sd, fd, pn, sk, fk, fa, fs, pd, ho, aq, rl) (nI r) 0) ∧ (post (aq r) → wpX_getResource post (nI C, nI Z, nI N, nI M, co, ca, st, pc, mk, ex, sd, fd, pn, sk, fk, fa, fs, pd, ho, aq, rl) (nI r) 1) ∧ (post (rl r) → wpX_getResource post (nI C, nI Z, nI N, nI M, co, ca, st, pc, mk, ex, sd, fd, pn, sk, fk, fa, fs, pd, ho, aq, rl) (nI r) 2) := by
  have e1 : ¬ nI r < 0 := nI_pos (by omega)
  have e2 : ¬ 8 ≤ nI r := nI_ge (b := 8) hr (by omega)
  refine ⟨fun h => ?_, fun h => ?_, fun h => ?_⟩
  · simp (disch := omega) only [wpX_getResource, wpX_isResource, e1, e2, nI_clamp, pk_us, am_uu, nI_1, nI_pred, am_ip, nI_add, am_m8, am_m4, vp_in_nI, true_and, and_true, forall_eq, true_implies, false_implies, not_true_eq_false, not_false_eq_true, am_ne_1_0, Int32.reduceLT, Int32.reduceLE]
    exact h
  · simp (disch := omega) only [wpX_getResource, wpX_isResource, e1, e2, nI_clamp, pk_us, am_uu, nI_1, nI_pred, am_ip, nI_add, am_m8, am_m4, vp_in_nI, true_and, and_true, forall_eq, true_implies, false_implies, not_true_eq_false, not_false_eq_true, am_ne_1_0, Int32.reduceLT, Int32.reduceLE]
    exact h
  · simp (disch := omega) only [wpX_getResource, wpX_isResource, e1, e2, am_ne_2_0, am_ne_2_1, nI_clamp, pk_us, am_uu, nI_1, nI_pred, am_ip, nI_add, am_m8, am_m4, vp_in_nI, true_and, and_true, forall_eq, true_implies, false_implies, not_true_eq_false, not_false_eq_true, am_ne_1_0, Int32.reduceLT, Int32.reduceLE]
    exact h
theorem am_gt0 (hM : M ≤ 4) (ht : t < M) {post : Int32 → Prop} (h : post (st t)) : wpX_getThread post (nI C, nI Z, nI N, nI M, co, ca, st, pc, mk, ex, sd, fd, pn, sk, fk, fa, fs, pd, ho, aq, rl) (nI t) 0 := by
  have e1 : ¬ nI t < 0 := nI_pos (by omega)
  have e2 : ¬ nI M ≤ nI t := nI_ge ht (by omega)
  simp (disch := omega) only [wpX_getThread, wpX_isThread, e1, e2, nI_clamp, pk_us, am_uu, nI_1, nI_pred, am_ip, nI_add, am_m8, am_m4, vp_in_nI, true_and, and_true, forall_eq, true_implies, false_implies, not_true_eq_false, not_false_eq_true, am_ne_1_0, Int32.reduceLT, Int32.reduceLE]
  exact h
theorem am_gt5 (hM : M ≤ 4) (ht : t < M) (hf : fd t = nI d) {post : Int32 → Prop} (h : post (nI d)) : wpX_getThread post (nI C, nI Z, nI N, nI M, co, ca, st, pc, mk, ex, sd, fd, pn, sk, fk, fa, fs, pd, ho, aq, rl) (nI t) 5 := by
  have e1 : ¬ nI t < 0 := nI_pos (by omega)
  have e2 : ¬ nI M ≤ nI t := nI_ge ht (by omega)
  simp (disch := omega) only [wpX_getThread, wpX_isThread, e1, e2, hf, am_ne_5_0, am_ne_5_1, am_ne_5_2, am_ne_5_3, am_ne_5_4, nI_clamp, pk_us, am_uu, nI_1, nI_pred, am_ip, nI_add, am_m8, am_m4, vp_in_nI, true_and, and_true, forall_eq, true_implies, false_implies, not_true_eq_false, not_false_eq_true, am_ne_1_0, Int32.reduceLT, Int32.reduceLE]
  exact h
theorem am_gf {i : Nat} (hM : M ≤ 4) (ht : t < M) (hf : fd t = nI d) (hd : d ≤ 8) (hi : i < d) {post : Int32 → Prop} : (post (fk (t * 8 + i)) → wpX_getFrame post (nI C, nI Z, nI N, nI M, co, ca, st, pc, mk, ex, sd, fd, pn, sk, fk, fa, fs, pd, ho, aq, rl) (nI t) (nI i) 0) ∧ (post (fa (t * 8 + i)) → wpX_getFrame post (nI C, nI Z, nI N, nI M, co, ca, st, pc, mk, ex, sd, fd, pn, sk, fk, fa, fs, pd, ho, aq, rl) (nI t) (nI i) 1) := by
  have e1 : ¬ nI t < 0 := nI_pos (by omega)
  have e2 : ¬ nI M ≤ nI t := nI_ge ht (by omega)
  have e3 : ¬ nI i < 0 := nI_pos (by omega)
  have e4 : nI i < nI d := nI_lt hi (by omega)
  refine ⟨fun h => ?_, fun h => ?_⟩
  · simp (disch := omega) only [wpX_getFrame, wpX_isThread, e1, e2, e3, e4, hf, nI_clamp, pk_us, am_uu, nI_1, nI_pred, am_ip, nI_add, am_m8, am_m4, vp_in_nI, true_and, and_true, forall_eq, true_implies, false_implies, not_true_eq_false, not_false_eq_true, am_ne_1_0, Int32.reduceLT, Int32.reduceLE]
    exact h
  · simp (disch := omega) only [wpX_getFrame, wpX_isThread, e1, e2, e3, e4, hf, nI_clamp, pk_us, am_uu, nI_1, nI_pred, am_ip, nI_add, am_m8, am_m4, vp_in_nI, true_and, and_true, forall_eq, true_implies, false_implies, not_true_eq_false, not_false_eq_true, am_ne_1_0, Int32.reduceLT, Int32.reduceLE]
    exact h
variable {L n s k kc ks : Nat} {xs : Nat → Int32} {post : Int32 → Prop} {x2 x5 x6 x7 x9 : Int32} {J141 : Int32 → Int32 → Int32 → Int32 → Int32 → (Nat → Int32) → (Nat → Int32) → (Nat → Int32) → (Nat → Int32) → (Nat → Int32) → (Nat → Int32) → (Nat → Int32) → (Nat → Int32) → (Nat → Int32) → (Nat → Int32) → (Nat → Int32) → (Nat → Int32) → (Nat → Int32) → (Nat → Int32) → (Nat → Int32) → (Nat → Int32) → (Nat → Int32) → Prop} {J288 J387 : Int32 → Prop}
theorem am_415 {u r : Nat} (hM : M ≤ 4) (hu : u < M) (hf : fd u = nI d) (hd : d ≤ 8) (hc : wL_law_465 post L xs J141 J288 J387 x2 x5 x6 x7 (nI r) x9 (nI u) (nI (am_cn fk fa u r d)) kc ks (nI C) (nI Z) (nI N) (nI M) co ca st pc mk ex sd fd pn sk fk fa fs pd ho aq rl) : ∀ m i f, i + m = d → m < f → wL_law_415 post L xs J141 J288 J387 x2 x5 x6 x7 (nI r) x9 (nI u) (nI d) kc ks (nI C) (nI Z) (nI N) (nI M) co ca st pc mk ex sd fd pn sk fk fa fs pd ho aq rl f (nI (am_cn fk fa u r i)) (nI i) := by
  intro m
  induction m with
  | zero =>
    intro i f hi hf'
    obtain ⟨f, rfl⟩ : ∃ g, f = g + 1 := ⟨f - 1, by omega⟩
    obtain rfl : i = d := by omega
    rw [wL_law_415]
    exact br_t (nI_le (by omega) (by omega)) hc
  | succ m ih =>
    intro i f hi hf'
    obtain ⟨f, rfl⟩ : ∃ g, f = g + 1 := ⟨f - 1, by omega⟩
    have h := ih (i + 1) f (by omega) (by omega)
    rw [am_cn] at h
    rw [wL_law_415]
    refine br_f (nI_ge (by omega) (by omega)) (br_f (nI_ge (b := 8) (by omega) (by omega)) ((am_gf hM hu hf hd (by omega)).1 ?_))
    by_cases h3 : fk (u * 8 + i) = 3
    · refine br_t h3 ((am_gf hM hu hf hd (by omega)).2 ?_)
      by_cases h5 : fa (u * 8 + i) = nI r
      · rw [if_pos ⟨h3, h5⟩] at h
        exact br_t h5 (nm_r (nI_1 _) (nm_r (nI_1 i) h))
      · rw [if_neg fun w => h5 w.2] at h
        exact br_f h5 (nm_r (nI_1 i) h)
    · rw [if_neg fun w => h3 w.1] at h
      exact br_f h3 (nm_r (nI_1 i) h)
theorem am_387 {r : Nat} (I : am_I M st mk ex sd fd pn fk fa) (hcnt : ∀ u d, u < M → d ≤ 8 → fd u = nI d → (nI u = x9 → am_cn fk fa u r d = 1) ∧ (¬ nI u = x9 → am_cn fk fa u r d = 0)) (J : ∀ y : Int32, y = nI r + 1 → J288 y) : ∀ m u f, u + m = M → m < f → wL_law_387 post L xs J141 J288 x2 x5 x6 (nI M) (nI r) x9 kc ks (nI C) (nI Z) (nI N) (nI M) co ca st pc mk ex sd fd pn sk fk fa fs pd ho aq rl f (nI u) := by
  have hM := I.1
  intro m
  induction m with
  | zero =>
    intro u f hu hf'
    obtain ⟨f, rfl⟩ : ∃ g, f = g + 1 := ⟨f - 1, by omega⟩
    obtain rfl : u = M := by omega
    rw [wL_law_387]
    exact br_t (nI_le (by omega) (by omega)) J
  | succ m ih =>
    intro u f hu hf'
    obtain ⟨f, rfl⟩ : ∃ g, f = g + 1 := ⟨f - 1, by omega⟩
    have h := ih (u + 1) f (by omega) (by omega)
    obtain ⟨d, hd, hf⟩ := I.2.2.1 u
    obtain ⟨c1, c0⟩ := hcnt u d (by omega) hd hf
    rw [wL_law_387]
    refine br_f (nI_ge (by omega) (by omega)) (br_f (nI_ge (b := 4) (by omega) (by omega)) (am_gt5 hM (by omega) hf ⟨d + 1, ?_⟩))
    refine am_415 hM (by omega) hf hd ?_ d 0 (d + 1) (by omega) (by omega)
    by_cases e : nI u = x9
    · rw [c1 e]
      exact br_t e (br_t rfl (nm_r (nI_1 u) h))
    · rw [c0 e]
      exact br_f e (br_t rfl (nm_r (nI_1 u) h))
theorem am_288 (I : am_I M st mk ex sd fd pn fk fa) (K : am_K b M st fd fk fa ho aq rl) (hb : b ≤ 1000) (J : ∀ y : Int32, y = x6 + 2 → J141 y (nI C) (nI Z) (nI N) (nI M) co ca st pc mk ex sd fd pn sk fk fa fs pd ho aq rl) : ∀ m r f, r + m = 8 → m < f → wL_law_288 post L xs J141 x2 x5 x6 (nI M) kc ks (nI C) (nI Z) (nI N) (nI M) co ca st pc mk ex sd fd pn sk fk fa fs pd ho aq rl f (nI r) := by
  have hM := I.1
  intro m
  induction m with
  | zero =>
    intro r f hr hf'
    obtain ⟨f, rfl⟩ : ∃ g, f = g + 1 := ⟨f - 1, by omega⟩
    obtain rfl : r = 8 := by omega
    rw [wL_law_288]
    exact br_t (by decide) J
  | succ m ih =>
    intro r f hr hf'
    obtain ⟨f, rfl⟩ : ∃ g, f = g + 1 := ⟨f - 1, by omega⟩
    have h := ih (r + 1) f (by omega) (by omega)
    obtain ⟨a, h1, h2, h3⟩ := K r (by omega)
    rw [wL_law_288]
    refine br_f (nI_ge (b := 8) (by omega) (by omega)) ((am_gr (by omega)).1 ((am_gr (by omega)).2.1 ((am_gr (by omega)).2.2 ?_)))
    rcases h3 with ⟨g1, g2, g3⟩ | ⟨h', i, c, g1, g2, g3, g4, g5, g6, g7⟩
    · have z0 : ho r < 0 := by rw [g1]; decide
      have z1 : aq r - rl r = 0 := by rw [h2, g2, Int32.sub_self]
      have z2 : rl r ≤ aq r := by rw [h2, g2]; exact nI_le (by omega) (by omega)
      have z3 : ¬ ho r < -1 := by rw [g1]; decide
      have z4 : ho r < nI M := am_nn z0 (nI_pos' (by omega))
      refine br_t z0 (br_t z1 (br_t z2 (br_f z3 (br_t z4 (br_t z0 ⟨M + 1, ?_⟩)))))
      refine am_387 I (fun u d hu hd hf => ⟨fun e => ?_, fun _ => ?_⟩) (nm_r (nI_1 r) h) M 0 (M + 1) (by omega) (by omega)
      · rw [g1] at e
        exact absurd e (am_m1 (by omega))
      · exact am_cn_0 d fun j hj w => g3 u j (by omega) ⟨d, hd, hf, hj, w.1, w.2⟩
    · subst g3
      have z0 : ¬ ho r < 0 := by rw [g2]; exact nI_pos (by omega)
      have z1 : aq r - rl r = 1 := by
        rw [h2, g4, pk_sub (by omega), show c + 1 - c = 1 by omega]
        rfl
      have z2 : rl r ≤ aq r := by rw [h2, g4]; exact nI_le (by omega) (by omega)
      have z3 : ¬ ho r < -1 := fun z => z0 (Int32.lt_trans z (by decide))
      have z4 : ho r < nI M := by rw [g2]; exact nI_lt g1 (by omega)
      have fin : ∃ f', wL_law_387 post L xs J141 (wL_law_288 post L xs J141 x2 x5 x6 (nI M) kc ks (nI C) (nI Z) (nI N) (nI M) co ca st pc mk ex sd fd pn sk fk fa fs pd ho aq rl f) x2 x5 x6 (nI M) (nI r) (ho r) kc ks (nI C) (nI Z) (nI N) (nI M) co ca st pc mk ex sd fd pn sk fk fa fs pd ho aq rl f' 0 := by
        refine ⟨M + 1, am_387 I (fun u d hu hd hf => ⟨fun e => ?_, fun e => ?_⟩) (nm_r (nI_1 r) h) M 0 (M + 1) (by omega) (by omega)⟩
        · rw [g2, nI_eq (by omega) (by omega)] at e
          subst e
          obtain ⟨d', q1, q2, q3, q4, q5⟩ := g6
          rw [hf, nI_eq (by omega) (by omega)] at q2
          subst q2
          exact am_cn_1 ⟨q4, q5⟩ d q3 fun j hj w => (g7 u j (by omega) ⟨d, hd, hf, hj, w.1, w.2⟩).2
        · refine am_cn_0 d fun j hj w => e ?_
          rw [g2, (g7 u j (by omega) ⟨d, hd, hf, hj, w.1, w.2⟩).1]
      refine br_f z0 (br_t z1 (br_t z2 (br_f z3 (br_t z4 (br_f z0 ?_)))))
      have gt : wpX_getThread (fun v => (v = 1 → ∃ f', wL_law_387 post L xs J141 (wL_law_288 post L xs J141 x2 x5 x6 (nI M) kc ks (nI C) (nI Z) (nI N) (nI M) co ca st pc mk ex sd fd pn sk fk fa fs pd ho aq rl f) x2 x5 x6 (nI M) (nI r) (ho r) kc ks (nI C) (nI Z) (nI N) (nI M) co ca st pc mk ex sd fd pn sk fk fa fs pd ho aq rl f' 0) ∧ (¬ v = 1 → post 0)) (nI C, nI Z, nI N, nI M, co, ca, st, pc, mk, ex, sd, fd, pn, sk, fk, fa, fs, pd, ho, aq, rl) (nI h') 0 := am_gt0 hM g1 (br_t g5 fin)
      rw [← g2] at gt
      exact gt
theorem am_279 (I : am_I M st mk ex sd fd pn fk fa) (K : am_K b M st fd fk fa ho aq rl) (hb : b ≤ 1000) (J : ∀ y : Int32, y = x6 + 2 → J141 y (nI C) (nI Z) (nI N) (nI M) co ca st pc mk ex sd fd pn sk fk fa fs pd ho aq rl) : wL_law_279 post L xs J141 x2 x5 x6 kc ks (nI C) (nI Z) (nI N) (nI M) co ca st pc mk ex sd fd pn sk fk fa fs pd ho aq rl := by
  unfold wL_law_279
  exact ⟨9, am_288 I K hb J 8 0 9 (by omega) (by omega)⟩

theorem am_141 (hp : post 1) (hL : L ≤ 260) (hC : C ≤ 4) (hZ : Z ≤ 64) (hn : 0 < n) (hn2 : n < 100) (hs : 2 ≤ s) (hs2 : s < 100) : ∀ (m k f b N M : Nat) (co ca st pc mk ex sd fd pn sk fk fa fs pd ho aq rl : Nat → Int32), s ≤ k → k + 2 * m < 3000 → L ≤ k + 2 * m → m < f → b + m ≤ 1000 → N ≤ Z → M ≤ C → am_I M st mk ex sd fd pn fk fa → am_K b M st fd fk fa ho aq rl → wL_law_141 post L xs (nI n) (nI s) kc ks f (nI k) (nI C) (nI Z) (nI N) (nI M) co ca st pc mk ex sd fd pn sk fk fa fs pd ho aq rl := by
  have es : nI s - 2 = nI (s - 2) := pk_sub (b := 2) hs
  have n0 : ¬ nI n = 0 := nI_ne0 hn (by omega)
  intro m
  induction m with
  | zero =>
    intro k f b N M co ca st pc mk ex sd fd pn sk fk fa fs pd ho aq rl h1 h2 h3 h4 h5 h6 h7 I K
    obtain ⟨f, rfl⟩ : ∃ g, f = g + 1 := ⟨f - 1, by omega⟩
    have ne : ¬ nI k = nI s - 2 := fun q => by rw [es, nI_eq (by omega) (by omega)] at q; omega
    rw [wL_law_141]
    exact br_f ne (br_t (nI_le (by omega) (by omega)) hp)
  | succ m ih =>
    intro k f b N M co ca st pc mk ex sd fd pn sk fk fa fs pd ho aq rl h1 h2 h3 h4 h5 h6 h7 I K
    obtain ⟨f, rfl⟩ : ∃ g, f = g + 1 := ⟨f - 1, by omega⟩
    have ne : ¬ nI k = nI s - 2 := fun q => by rw [es, nI_eq (by omega) (by omega)] at q; omega
    have hM := I.1
    rw [wL_law_141]
    by_cases e : L ≤ k
    · exact br_f ne (br_t (nI_le (by omega) (by omega)) hp)
    refine br_f ne (br_f (nI_ge (by omega) (by omega)) ?_)
    unfold wL_law_157
    refine br_f (nI_nlt (by omega) (by omega)) (am_cell hL rfl (by omega) fun v => am_cell hL (nI_1 k) (by omega) fun w => ?_)
    intro x9 _ x10 _
    refine br_c (fun _ => br_c (fun _ => ?_) (fun _ => br_c (fun _ => ?_) (fun _ => ⟨n0, ?_⟩))) (fun _ => ?_)
    · obtain ⟨r, pn', pd', I', hX⟩ := am_throwTo (C := C) (Z := Z) (N := N) (co := co) (ca := ca) (pc := pc) (sk := sk) (fs := fs) (pd := pd) (ho := ho) (aq := aq) (rl := rl) I x10 w
      refine hX _ (am_279 I' K (by omega) (nm_r (nI_add k 2) ?_))
      exact ih (k + 2) f b N M _ _ _ _ _ _ _ _ _ _ _ _ _ _ _ _ _ (by omega) (by omega) (by omega) (by omega) (by omega) h6 h7 I' K
    · refine am_opFor (fun o => am_argFor n0 (fun a => ?_) _ _) _
      obtain ⟨r, N', co', ca', hN', hX⟩ := am_load (C := C) (N := N) (M := M) (co := co) (ca := ca) (st := st) (pc := pc) (mk := mk) (ex := ex) (sd := sd) (fd := fd) (pn := pn) (sk := sk) (fk := fk) (fa := fa) (fs := fs) (pd := pd) (ho := ho) (aq := aq) (rl := rl) hZ h6 o a
      refine hX _ (am_279 I K (by omega) (nm_r (nI_add k 2) ?_))
      exact ih (k + 2) f b N' M _ _ _ _ _ _ _ _ _ _ _ _ _ _ _ _ _ (by omega) (by omega) (by omega) (by omega) (by omega) hN' h7 I K
    · obtain ⟨r, M', st', pc', hM', I', K', hX⟩ := am_spawn (Z := Z) (N := N) (co := co) (ca := ca) (pc := pc) (sk := sk) (fs := fs) (pd := pd) I K hC h7 ((w &&& 255) - (w &&& 255) / nI n * nI n)
      refine hX _ (am_279 I' K' (by omega) (nm_r (nI_add k 2) ?_))
      exact ih (k + 2) f b N M' _ _ _ _ _ _ _ _ _ _ _ _ _ _ _ _ _ (by omega) (by omega) (by omega) (by omega) (by omega) h6 hM' I' K'
    · obtain ⟨r, st', pc', mk', ex', sd', fd', pn', sk', fk', fa', fs', pd', ho', aq', rl', I', K', hX⟩ := am_step (C := C) (Z := Z) (N := N) (co := co) (ca := ca) (pc := pc) (sk := sk) (fs := fs) (pd := pd) I K (by omega) x10
      refine hX _ (am_279 I' K' (by omega) (nm_r (nI_add k 2) ?_))
      exact ih (k + 2) f (b + 1) N M _ _ _ _ _ _ _ _ _ _ _ _ _ _ _ _ _ (by omega) (by omega) (by omega) (by omega) (by omega) h6 h7 I' K'
theorem am_start (hp : post 1) (hL : L ≤ 260) (hC : C ≤ 4) (hZ : Z ≤ 64) (hn : 0 < n) (hn2 : n < 100) (hs2 : s < 90) (hN : N ≤ Z) (hM : M ≤ C) (I : am_I M st mk ex sd fd pn fk fa) (K : am_K 0 M st fd fk fa ho aq rl) : wL_law_141 post L xs (nI n) (nI (s + 2)) kc ks (L + 2) (nI s) (nI C) (nI Z) (nI N) (nI M) co ca st pc mk ex sd fd pn sk fk fa fs pd ho aq rl := by
  have es : nI (s + 2) - 2 = nI s := pk_sub (b := 2) (by omega)
  rw [wL_law_141]
  refine br_t es.symm ?_
  unfold wL_law_157
  refine br_t (nI_lt (by omega) (by omega)) (am_279 I K (by omega) (nm_r (nI_add s 2) ?_))
  exact am_141 hp hL hC hZ hn hn2 (by omega) (by omega) L (s + 2) (L + 1) 0 N M _ _ _ _ _ _ _ _ _ _ _ _ _ _ _ _ _ (by omega) (by omega) (by omega) (by omega) (by omega) hN hM I K
theorem am_96 {q g : Nat} (hp : post 1) (hL : L ≤ 260) (hC : C ≤ 4) (hZ : Z ≤ 64) (hn : 0 < n) (hn2 : n < 50) (hq : q < 60) (hg : g < 10) (hN : N ≤ Z) : ∀ (m j f M : Nat) (st pc : Nat → Int32), j + m = g → m < f → M ≤ C → am_I M st mk ex sd fd pn fk fa → am_K 0 M st fd fk fa ho aq rl → wL_law_96 post L xs (nI n) (nI q) (nI g) kc ks f (nI j) (nI C) (nI Z) (nI N) (nI M) co ca st pc mk ex sd fd pn sk fk fa fs pd ho aq rl := by
  have n0 : ¬ nI n = 0 := nI_ne0 hn (by omega)
  intro m
  induction m with
  | zero =>
    intro j f M st pc hj hf hM I K
    obtain ⟨f, rfl⟩ : ∃ g, f = g + 1 := ⟨f - 1, by omega⟩
    obtain rfl : j = g := by omega
    rw [wL_law_96]
    refine br_t (nI_le (by omega) (by omega)) (nm_r (nI_add q 5) (nm_r (pk_sub (a := q + 5) (b := 2) (by omega)) ⟨L + 2, ?_⟩))
    exact am_start (s := q + 3) hp hL hC hZ hn (by omega) (by omega) hN hM I K
  | succ m ih =>
    intro j f M st pc hj hf hM I K
    obtain ⟨f, rfl⟩ : ∃ g, f = g + 1 := ⟨f - 1, by omega⟩
    rw [wL_law_96]
    refine br_f (nI_ge (by omega) (by omega)) (am_cell hL ((congrArg (· + nI j) (nI_1 q)).trans (nI_add _ _)) (by omega) fun v => ⟨n0, ?_⟩)
    obtain ⟨r, M', st', pc', hM', I', K', hX⟩ := am_spawn (Z := Z) (N := N) (co := co) (ca := ca) (pc := pc) (sk := sk) (fs := fs) (pd := pd) I K hC hM ((v &&& 255) - (v &&& 255) / nI n * nI n)
    exact hX _ (nm_r (nI_1 j) (ih (j + 1) f M' st' pc' (by omega) (by omega) hM' I' K'))
theorem am_33 (hp : post 1) (hL : L ≤ 260) (hC : C ≤ 4) (hZ : Z ≤ 64) (hn : 0 < n) (hn2 : n < 50) (hM : M ≤ C) (I : am_I M st mk ex sd fd pn fk fa) (K : am_K 0 M st fd fk fa ho aq rl) : ∀ (m i f N : Nat) (co ca : Nat → Int32), i + m = n → m < f → N ≤ Z → wL_law_33 post L xs (nI n) kc ks f (nI i) (nI C) (nI Z) (nI N) (nI M) co ca st pc mk ex sd fd pn sk fk fa fs pd ho aq rl := by
  have n0 : ¬ nI n = 0 := nI_ne0 hn (by omega)
  intro m
  induction m with
  | zero =>
    intro i f N co ca hi hf hN
    obtain ⟨f, rfl⟩ : ∃ g, f = g + 1 := ⟨f - 1, by omega⟩
    obtain rfl : i = n := by omega
    rw [wL_law_33]
    refine br_t (nI_le (by omega) (by omega)) (nm_r (nI_add 2 i) (am_cell hL rfl (by omega) fun v => ?_))
    obtain ⟨j, hj, ej⟩ := pk_andE v (m := 3) 2 (by decide)
    refine nm_r ((congrArg (1 + ·) ej).trans (nI_add 1 j)) ⟨1 + j + 1, ?_⟩
    exact am_96 hp hL hC hZ hn hn2 (by omega) (by omega) hN (1 + j) 0 (1 + j + 1) M st pc (by omega) (by omega) hM I K
  | succ m ih =>
    intro i f N co ca hi hf hN
    obtain ⟨f, rfl⟩ : ∃ g, f = g + 1 := ⟨f - 1, by omega⟩
    rw [wL_law_33]
    refine br_f (nI_ge (by omega) (by omega)) (am_cell hL (nI_add 2 i) (by omega) fun v => am_opFor (fun o => am_argFor n0 (fun a => ?_) _ _) _)
    obtain ⟨r, N', co', ca', hN', hX⟩ := am_load (C := C) (N := N) (M := M) (co := co) (ca := ca) (st := st) (pc := pc) (mk := mk) (ex := ex) (sd := sd) (fd := fd) (pn := pn) (sk := sk) (fk := fk) (fa := fa) (fs := fs) (pd := pd) (ho := ho) (aq := aq) (rl := rl) hZ hN o a
    exact hX _ (nm_r (nI_1 i) (ih (i + 1) f N' co' ca' (by omega) (by omega) hN'))
end
def am_h : Nat → Nat → Int32
  | 0 => fun _ => 0
  | i + 1 => upd (am_h i) i (-1)
theorem am_h_lt : ∀ i r, r < i → am_h i r = -1 := by
  intro i
  induction i with
  | zero => exact fun r h => absurd h (Nat.not_lt_zero r)
  | succ i ih =>
    intro r h
    rw [am_h]
    by_cases e : r = i
    · rw [e, pk_us]
    · rw [pk_un e]
      exact ih r (by omega)
theorem am_X_ini {a b : Int32} {mc ms kc ks : Nat} {post : St2 → Prop} (h : post (a, b, 0, 0, (fun _ => 0), (fun _ => 0), (fun _ => 0), (fun _ => 0), (fun _ => 0), (fun _ => 0), (fun _ => 0), (fun _ => 0), (fun _ => 0), (fun _ => 0), (fun _ => 0), (fun _ => 0), (fun _ => 0), (fun _ => 0), am_h 8, (fun _ => 0), (fun _ => 0))) : ∀ m i f, i + m = 8 → m < f → wX_init_167 post mc ms kc ks a b 0 0 f (nI i) (fun _ => 0) (fun _ => 0) (fun _ => 0) (fun _ => 0) (fun _ => 0) (fun _ => 0) (fun _ => 0) (fun _ => 0) (fun _ => 0) (fun _ => 0) (fun _ => 0) (fun _ => 0) (fun _ => 0) (fun _ => 0) (am_h i) (fun _ => 0) (fun _ => 0) := by
  intro m
  induction m with
  | zero =>
    intro i f hi hf
    obtain ⟨f, rfl⟩ : ∃ g, f = g + 1 := ⟨f - 1, by omega⟩
    obtain rfl : i = 8 := by omega
    rw [wX_init_167]
    exact br_t (by decide) h
  | succ m ih =>
    intro i f hi hf
    obtain ⟨f, rfl⟩ : ∃ g, f = g + 1 := ⟨f - 1, by omega⟩
    rw [wX_init_167]
    refine br_f (nI_ge (b := 8) (by omega) (by omega)) ?_
    simp (disch := omega) only [nI_clamp, pk_us, am_uu, nI_1, nI_pred, am_ip, nI_add, am_m8, am_m4, vp_in_nI, true_and, and_true, forall_eq, true_implies, false_implies, not_true_eq_false, not_false_eq_true, am_ne_1_0, Int32.reduceLT, Int32.reduceLE]
    exact ih (i + 1) f (by omega) (by omega)
theorem am_cl {x a b : Int32} {m n : Nat} (ha : a = nI m) (hb : b = nI n) (hmn : m ≤ n) (hn : n < 2 ^ 31) : ∃ c : Nat, c ≤ n ∧ ((¬ a ≤ x ∧ nI c = a) ∨ (a ≤ x ∧ ¬ x ≤ b ∧ nI c = b) ∨ (a ≤ x ∧ x ≤ b ∧ nI c = x)) := by
  by_cases h : a ≤ x
  · by_cases g : x ≤ b
    · obtain ⟨j, hj, rfl⟩ := nI_of (x := x) (fun z => absurd (Int32.lt_of_le_of_lt h z) (by rw [ha]; exact nI_pos (by omega)))
      rw [hb, nI_leI hj hn] at g
      exact ⟨j, g, Or.inr (Or.inr ⟨h, by rw [hb]; exact nI_le g hn, rfl⟩)⟩
    · exact ⟨n, Nat.le_refl n, Or.inr (Or.inl ⟨h, g, hb.symm⟩)⟩
  · exact ⟨m, hmn, Or.inl ⟨h, ha.symm⟩⟩
theorem am_vX {x a b : Int32} {c : Nat} (h : (¬ a ≤ x ∧ nI c = a) ∨ (a ≤ x ∧ ¬ x ≤ b ∧ nI c = b) ∨ (a ≤ x ∧ x ≤ b ∧ nI c = x)) {post : Int32 → Prop} (hp : post (nI c)) : wpX_clamp post () x a b := by
  rcases h with ⟨h1, h2⟩ | ⟨h1, h2, h3⟩ | ⟨h1, h2, h3⟩
  · exact br_f h1 (h2 ▸ hp)
  · exact br_t h1 (br_f h2 (h3 ▸ hp))
  · exact br_t h1 (br_t h2 (h3 ▸ hp))
theorem am_I0 : am_I 0 (fun _ => 0) (fun _ => 0) (fun _ => 0) (fun _ => 0) (fun _ => 0) (fun _ => 0) (fun _ => 0) (fun _ => 0) := by
  refine ⟨by omega, fun _ => ⟨0, by omega, rfl⟩, fun _ => ⟨0, by omega, rfl⟩, fun _ => ⟨0, by omega, rfl⟩, fun j hj => ?_, fun _ _ => rfl, fun _ _ => rfl, fun _ _ => rfl, fun _ _ => rfl, fun _ _ => rfl, fun _ _ => rfl⟩
  exact absurd (show (0 : Int32) = 3 from hj) (by decide)
theorem am_K0 : am_K 0 0 (fun _ => 0) (fun _ => 0) (fun _ => 0) (fun _ => 0) (am_h 8) (fun _ => 0) (fun _ => 0) := by
  intro r hr
  refine ⟨0, by omega, rfl, Or.inl ⟨am_h_lt 8 r hr, rfl, fun u j hu z => ?_⟩⟩
  obtain ⟨d, h1, h2, h3, h4, h5⟩ := z
  exact absurd (show (0 : Int32) = 3 from h4) (by decide)
theorem i_vc (xs : Nat → Int32) (L : Nat) (hL : L ≤ 260) : wpL_law (fun r => r = 1) L xs := by
  refine am_cell hL (j := 0) rfl (by omega) fun v => ⟨17, 324, by omega, by omega, ?_⟩
  obtain ⟨c, hc, Hc⟩ := am_cl (x := 2 + (v &&& 3)) (a := 2) (b := 4) (m := 2) (n := 4) rfl rfl (by omega) (by omega)
  obtain ⟨z, hz, Hz⟩ := am_cl (x := 64) (a := 8) (b := 64) (m := 8) (n := 64) rfl rfl (by omega) (by omega)
  unfold wpX_init
  refine ⟨by omega, by omega, by omega, by omega, by omega, by omega, by omega, by omega, by omega, by omega, by omega, by omega, by omega, by omega, by omega, by omega, by omega, by omega, by omega, by omega, by omega, by omega, by omega, by omega, by omega, by omega, by omega, by omega, by omega, by omega, by omega, by omega, by omega, by omega, am_vX Hc (am_vX Hz ⟨9, am_X_ini ?_ 8 0 9 (by omega) (by omega)⟩)⟩
  refine am_cell hL (j := 1) rfl (by omega) fun w => ?_
  obtain ⟨j, hj, ej⟩ := pk_andE w (m := 15) 4 (by decide)
  refine nm_r ((congrArg (8 + ·) ej).trans (nI_add 8 j)) ⟨8 + j + 1, ?_⟩
  exact am_33 (post := fun r => r = 1) (n := 8 + j) (C := c) (Z := z) (M := 0) rfl hL hc hz (by omega) (by omega) (by omega) am_I0 am_K0 (8 + j) 0 (8 + j + 1) 0 _ _ (by omega) (by omega) (by omega)
