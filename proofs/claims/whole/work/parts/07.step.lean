def am_OutR (C Z N M : Nat) (co ca : Nat → Int32) (WX : (Int32 → SX → Prop) → Prop) (WY : (Int32 → SY → Prop) → Prop) : Prop := ∃ (r : Int32) (st pc mk ex sd fd pn sk fk fa fs pX pY ho aq rl : Nat → Int32), am_I M st mk ex sd fd pn fk fa ∧ am_P pn pX pY ∧ (∀ post : Int32 → SX → Prop, post r (nI C, nI Z, nI N, nI M, co, ca, st, pc, mk, ex, sd, fd, pn, sk, fk, fa, fs, pX, ho, aq, rl) → WX post) ∧ (∀ post : Int32 → SY → Prop, post r (nI C, nI Z, nI N, nI M, co, ca, st, pc, mk, ex, sd, fd, pn, sk, fk, fa, fs, pY, ho, aq, rl) → WY post)
def am_J (t : Nat) (p q : Nat → Int32) (i : Nat) : Prop := (∀ k, k < i → q (t * 4 + k) = p (t * 4 + (k + 1))) ∧ (∀ k, i ≤ k → q (t * 4 + k) = p (t * 4 + k)) ∧ (∀ j, (j < t * 4 ∨ t * 4 + 4 ≤ j) → q j = p j)
theorem am_J_0 {t : Nat} {p : Nat → Int32} : am_J t p p 0 := ⟨fun k hk => absurd hk (Nat.not_lt_zero k), fun _ _ => rfl, fun _ _ => rfl⟩
theorem am_J_s {t i : Nat} {p q : Nat → Int32} (hi : i < 4) (h : am_J t p q i) : am_J t p (upd q (t * 4 + i) (q (t * 4 + (i + 1)))) (i + 1) := by
  obtain ⟨h1, h2, h3⟩ := h
  refine ⟨fun k hk => ?_, fun k hk => ?_, fun j hj => ?_⟩
  · by_cases e : k = i
    · rw [e, pk_us]
      exact h2 (i + 1) (by omega)
    · rw [pk_un (by omega)]
      exact h1 k (by omega)
  · rw [pk_un (by omega)]
    exact h2 k (by omega)
  · rw [pk_un (by omega)]
    exact h3 j hj
section
variable {C Z N M t p d : Nat} {co ca st pc mk ex sd fd pn sk fk fa fs pd pX pY ho aq rl : Nat → Int32}
theorem am_X_rem {e : Int32} {c : Nat} (ht : t < 4) (hc : c < 4) (p : Nat → Int32) : ∀ (m i : Nat) (q : Nat → Int32), i + m = c → am_J t p q i → ∃ q' : Nat → Int32, am_J t p q' c ∧ ∀ (post : Int32 → SX → Prop) (f : Nat), m < f → (∀ g, wX_removeOldestPending_26 post (nI t) (nI (t * 4 + c)) e (nI C) (nI Z) (nI N) (nI M) (g + 1) (nI (t * 4 + c)) co ca st pc mk ex sd fd pn sk fk fa fs q' ho aq rl) → wX_removeOldestPending_26 post (nI t) (nI (t * 4 + c)) e (nI C) (nI Z) (nI N) (nI M) f (nI (t * 4 + i)) co ca st pc mk ex sd fd pn sk fk fa fs q ho aq rl := by
  intro m
  induction m with
  | zero =>
    intro i q hi h
    obtain rfl : i = c := by omega
    refine ⟨q, h, fun post f hf hp => ?_⟩
    obtain ⟨f, rfl⟩ : ∃ g, f = g + 1 := ⟨f - 1, by omega⟩
    exact hp f
  | succ m ih =>
    intro i q hi h
    obtain ⟨q', h', H⟩ := ih (i + 1) _ (by omega) (am_J_s (by omega) h)
    refine ⟨q', h', fun post f hf hp => ?_⟩
    obtain ⟨f, rfl⟩ : ∃ g, f = g + 1 := ⟨f - 1, by omega⟩
    have hq := H post f (by omega) hp
    rw [wX_removeOldestPending_26]
    refine br_f (nI_ge (by omega) (by omega)) ?_
    simp (disch := omega) only [Nat.add_assoc, nI_clamp, pk_us, am_uu, nI_1, nI_pred, am_ip, nI_add, am_m8, am_m4, vp_in_nI, true_and, and_true, forall_eq, true_implies, false_implies, not_true_eq_false, not_false_eq_true, am_ne_1_0, Int32.reduceLT, Int32.reduceLE]
    exact hq
theorem am_Y_rem {e : Int32} (ht : t < 4) (p : Nat → Int32) : ∀ (m i : Nat) (q : Nat → Int32), i + m = 3 → am_J t p q i → ∃ q' : Nat → Int32, am_J t p q' 3 ∧ ∀ (post : Int32 → SY → Prop) (f : Nat), m < f → (∀ g, wY_step_71 post (nI t) e (nI C) (nI Z) (nI N) (nI M) (g + 1) (nI 3) co ca st pc mk ex sd fd pn sk fk fa fs q' ho aq rl) → wY_step_71 post (nI t) e (nI C) (nI Z) (nI N) (nI M) f (nI i) co ca st pc mk ex sd fd pn sk fk fa fs q ho aq rl := by
  intro m
  induction m with
  | zero =>
    intro i q hi h
    obtain rfl : i = 3 := by omega
    refine ⟨q, h, fun post f hf hp => ?_⟩
    obtain ⟨f, rfl⟩ : ∃ g, f = g + 1 := ⟨f - 1, by omega⟩
    exact hp f
  | succ m ih =>
    intro i q hi h
    obtain ⟨q', h', H⟩ := ih (i + 1) _ (by omega) (am_J_s (by omega) h)
    refine ⟨q', h', fun post f hf hp => ?_⟩
    obtain ⟨f, rfl⟩ : ∃ g, f = g + 1 := ⟨f - 1, by omega⟩
    have hq := H post f (by omega) hp
    rw [wY_step_71]
    refine br_f (nI_ge (b := 3) (by omega) (by omega)) ?_
    simp (disch := omega) only [Nat.add_assoc, nI_clamp, pk_us, am_uu, nI_1, nI_pred, am_ip, nI_add, am_m8, am_m4, vp_in_nI, true_and, and_true, forall_eq, true_implies, false_implies, not_true_eq_false, not_false_eq_true, am_ne_1_0, Int32.reduceLT, Int32.reduceLE]
    exact hq
theorem am_X_al (ht : t < M) (hM : M ≤ 4) (ha : st t = 1) {post : Int32 → Prop} (h : post 1) : wpX_isAlive post (nI C, nI Z, nI N, nI M, co, ca, st, pc, mk, ex, sd, fd, pn, sk, fk, fa, fs, pd, ho, aq, rl) (nI t) := by
  have e1 : ¬ nI t < 0 := nI_pos (by omega)
  have e2 : ¬ nI M ≤ nI t := nI_ge ht (by omega)
  simp (disch := omega) only [wpX_isAlive, wpX_isThread, e1, e2, ha, nI_clamp, pk_us, am_uu, nI_1, nI_pred, am_ip, nI_add, am_m8, am_m4, vp_in_nI, true_and, and_true, forall_eq, true_implies, false_implies, not_true_eq_false, not_false_eq_true, am_ne_1_0, Int32.reduceLT, Int32.reduceLE]
  exact h
theorem am_del (I : am_I M st mk ex sd fd pn fk fa) (P : am_P pn pX pY) (ht : t < M) (ha : st t = 1) {c : Nat} {b : Int32} (hc : c < 4) (hn : pn t = nI (c + 1)) (hm : mk t = 0 ∨ mk t = 1 ∧ ¬ b = 0) (hbX : ∀ (post : Int32 → Prop) (pd : Nat → Int32), post b → wpX_isBlocked post (nI C, nI Z, nI N, nI M, co, ca, st, pc, mk, ex, sd, fd, pn, sk, fk, fa, fs, pd, ho, aq, rl) (nI t)) : am_OutR C Z N M co ca (fun post => wpX_step post (nI C, nI Z, nI N, nI M, co, ca, st, pc, mk, ex, sd, fd, pn, sk, fk, fa, fs, pX, ho, aq, rl) (nI t)) (fun post => wY_step_60 post (nI t) (nI C) (nI Z) (nI N) (nI M) co ca st pc mk ex sd fd pn sk fk fa fs pY ho aq rl) := by
  have hM := I.1
  obtain ⟨qX, jX, RX⟩ := am_X_rem (C := C) (Z := Z) (N := N) (M := M) (co := co) (ca := ca) (st := st) (pc := pc) (mk := mk) (ex := ex) (sd := sd) (fd := fd) (pn := pn) (sk := sk) (fk := fk) (fa := fa) (fs := fs) (ho := ho) (aq := aq) (rl := rl) (t := t) (e := pX (t * 4)) (by omega) hc pX c 0 pX (by omega) am_J_0
  obtain ⟨qY, jY, RY⟩ := am_Y_rem (C := C) (Z := Z) (N := N) (M := M) (co := co) (ca := ca) (st := st) (pc := pc) (mk := mk) (ex := ex) (sd := sd) (fd := fd) (pn := pn) (sk := sk) (fk := fk) (fa := fa) (fs := fs) (ho := ho) (aq := aq) (rl := rl) (t := t) (e := pX (t * 4)) (by omega) pY 3 0 pY (by omega) am_J_0
  simp only [Nat.add_zero] at RX
  have he : pY (t * 4) = pX (t * 4) := (P t 0 (c + 1) (by omega) (by omega) hn (by omega)).symm
  have P' : am_P (upd pn t (nI c)) qX qY := am_P_rem P (by omega) hc hn jX.1 (fun i hi => jY.1 i (by omega)) jX.2.2 jY.2.2
  obtain ⟨st', pc', mk', ex', sd', fd', pn', sk', fk', fa', fs', pX', pY', ho', aq', rl', hI', hP', hX', hY'⟩ := am_raise (C := C) (Z := Z) (N := N) (co := co) (ca := ca) (pc := pc) (sk := sk) (fs := fs) (ho := ho) (aq := aq) (rl := rl) (e := pX (t * 4)) (am_I_pn (d := c) I ht (by omega)) P' ht
  refine ⟨3, st', pc', mk', ex', sd', fd', pn', sk', fk', fa', fs', pX', pY', ho', aq', rl', hI', hP', fun post h => ?_, fun post h => ?_⟩
  · have e0 : ¬ nI (c + 1) = 0 := nI_ne0 (by omega) (by omega)
    unfold wpX_step
    refine am_X_al ht hM ha (br_f (by decide) (hbX _ pX ?_))
    have hd : ∀ post : Int32 → Prop, post 1 → wpX_isDeliveryDue post (nI C, nI Z, nI N, nI M, co, ca, st, pc, mk, ex, sd, fd, pn, sk, fk, fa, fs, pX, ho, aq, rl) (nI t) b := by
      intro post h
      rcases hm with hm | ⟨hm, hb⟩
      · simp (disch := omega) only [wpX_isDeliveryDue, hn, e0, hm, nI_clamp, pk_us, am_uu, nI_1, nI_pred, am_ip, nI_add, am_m8, am_m4, vp_in_nI, true_and, and_true, forall_eq, true_implies, false_implies, not_true_eq_false, not_false_eq_true, am_ne_1_0, Int32.reduceLT, Int32.reduceLE]
        exact h
      · simp (disch := omega) only [wpX_isDeliveryDue, hn, e0, hm, hb, nI_clamp, pk_us, am_uu, nI_1, nI_pred, am_ip, nI_add, am_m8, am_m4, vp_in_nI, true_and, and_true, forall_eq, true_implies, false_implies, not_true_eq_false, not_false_eq_true, am_ne_1_0, Int32.reduceLT, Int32.reduceLE]
        exact h
    refine hd _ (br_f (by decide) ?_)
    simp (disch := omega) only [wpX_removeOldestPending, hn, nI_clamp, pk_us, am_uu, nI_1, nI_pred, am_ip, nI_add, am_m8, am_m4, vp_in_nI, true_and, and_true, forall_eq, true_implies, false_implies, not_true_eq_false, not_false_eq_true, am_ne_1_0, Int32.reduceLT, Int32.reduceLE]
    refine ⟨c + 1, RX _ (c + 1) (by omega) fun g => ?_⟩
    rw [wX_removeOldestPending_26]
    refine br_t (nI_le (by omega) (by omega)) ?_
    simp (disch := omega) only [hn, nI_clamp, pk_us, am_uu, nI_1, nI_pred, am_ip, nI_add, am_m8, am_m4, vp_in_nI, true_and, and_true, forall_eq, true_implies, false_implies, not_true_eq_false, not_false_eq_true, am_ne_1_0, Int32.reduceLT, Int32.reduceLE]
    exact hX' _ h
  · have hr : wY_step_71 post (nI t) (pX (t * 4)) (nI C) (nI Z) (nI N) (nI M) 4 (nI 0) co ca st pc mk ex sd fd pn sk fk fa fs pY ho aq rl := by
      refine RY _ 4 (by omega) fun g => ?_
      rw [wY_step_71]
      refine br_t (by decide) ?_
      simp (disch := omega) only [hn, nI_clamp, pk_us, am_uu, nI_1, nI_pred, am_ip, nI_add, am_m8, am_m4, vp_in_nI, true_and, and_true, forall_eq, true_implies, false_implies, not_true_eq_false, not_false_eq_true, am_ne_1_0, Int32.reduceLT, Int32.reduceLE]
      exact hY' _ h
    simp (disch := omega) only [wY_step_60, he, nI_clamp, pk_us, am_uu, nI_1, nI_pred, am_ip, nI_add, am_m8, am_m4, vp_in_nI, true_and, and_true, forall_eq, true_implies, false_implies, not_true_eq_false, not_false_eq_true, am_ne_1_0, Int32.reduceLT, Int32.reduceLE]
    exact ⟨4, hr⟩
theorem am_nodel (I : am_I M st mk ex sd fd pn fk fa) (P : am_P pn pX pY) (ht : t < M) (hN : N ≤ 64) (ha : st t = 1) {b : Int32} (hd : ∀ post : Int32 → Prop, post 0 → wpX_isDeliveryDue post (nI C, nI Z, nI N, nI M, co, ca, st, pc, mk, ex, sd, fd, pn, sk, fk, fa, fs, pX, ho, aq, rl) (nI t) b) (hbX : ∀ (post : Int32 → Prop) (pd : Nat → Int32), post b → wpX_isBlocked post (nI C, nI Z, nI N, nI M, co, ca, st, pc, mk, ex, sd, fd, pn, sk, fk, fa, fs, pd, ho, aq, rl) (nI t)) (hbY : ∀ (post : Int32 → Prop) (pd : Nat → Int32), post b → wpY_blocked post (nI C, nI Z, nI N, nI M, co, ca, st, pc, mk, ex, sd, fd, pn, sk, fk, fa, fs, pd, ho, aq, rl) (nI t)) : am_OutR C Z N M co ca (fun post => wpX_step post (nI C, nI Z, nI N, nI M, co, ca, st, pc, mk, ex, sd, fd, pn, sk, fk, fa, fs, pX, ho, aq, rl) (nI t)) (fun post => wY_step_122 post (nI t) (nI C) (nI Z) (nI N) (nI M) co ca st pc mk ex sd fd pn sk fk fa fs pY ho aq rl) := by
  have hM := I.1
  by_cases hb : b = 0
  · rcases pk_ix (pc t) (n := N) (by omega) with hp | hp | ⟨p, hp, hpc⟩
    · obtain ⟨st', pc', mk', ex', sd', fd', pn', sk', fk', fa', fs', pX', pY', ho', aq', rl', hI', hP', hX', hY'⟩ := am_raise (C := C) (Z := Z) (N := N) (co := co) (ca := ca) (pc := pc) (sk := sk) (fs := fs) (ho := ho) (aq := aq) (rl := rl) (e := -5) I P ht
      refine ⟨1, st', pc', mk', ex', sd', fd', pn', sk', fk', fa', fs', pX', pY', ho', aq', rl', hI', hP', fun post h => ?_, fun post h => ?_⟩
      · unfold wpX_step; refine am_X_al ht hM ha (br_f (by decide) (hbX _ pX (hd _ (br_t rfl (br_t hb ?_))))); simp (disch := omega) only [wpX_isCodeAddress, hp, nI_clamp, pk_us, am_uu, nI_1, nI_pred, am_ip, nI_add, am_m8, am_m4, vp_in_nI, true_and, and_true, forall_eq, true_implies, false_implies, not_true_eq_false, not_false_eq_true, am_ne_1_0, Int32.reduceLT, Int32.reduceLE]; exact hX' _ h
      · unfold wY_step_122; refine hbY _ pY (br_t hb ?_); simp (disch := omega) only [wY_step_154, hp, nI_clamp, pk_us, am_uu, nI_1, nI_pred, am_ip, nI_add, am_m8, am_m4, vp_in_nI, true_and, and_true, forall_eq, true_implies, false_implies, not_true_eq_false, not_false_eq_true, am_ne_1_0, Int32.reduceLT, Int32.reduceLE]; exact hY' _ h
    · have hz : ¬ pc t < 0 := am_nb (by omega) hp
      have hy : ¬ pc t < nI N := Int32.not_lt.mpr hp
      obtain ⟨st', pc', mk', ex', sd', fd', pn', sk', fk', fa', fs', pX', pY', ho', aq', rl', hI', hP', hX', hY'⟩ := am_raise (C := C) (Z := Z) (N := N) (co := co) (ca := ca) (pc := pc) (sk := sk) (fs := fs) (ho := ho) (aq := aq) (rl := rl) (e := -5) I P ht
      refine ⟨1, st', pc', mk', ex', sd', fd', pn', sk', fk', fa', fs', pX', pY', ho', aq', rl', hI', hP', fun post h => ?_, fun post h => ?_⟩
      · unfold wpX_step; refine am_X_al ht hM ha (br_f (by decide) (hbX _ pX (hd _ (br_t rfl (br_t hb ?_))))); simp (disch := omega) only [wpX_isCodeAddress, hp, hz, nI_clamp, pk_us, am_uu, nI_1, nI_pred, am_ip, nI_add, am_m8, am_m4, vp_in_nI, true_and, and_true, forall_eq, true_implies, false_implies, not_true_eq_false, not_false_eq_true, am_ne_1_0, Int32.reduceLT, Int32.reduceLE]; exact hX' _ h
      · unfold wY_step_122; refine hbY _ pY (br_t hb ?_); simp (disch := omega) only [wY_step_154, hz, hy, nI_clamp, pk_us, am_uu, nI_1, nI_pred, am_ip, nI_add, am_m8, am_m4, vp_in_nI, true_and, and_true, forall_eq, true_implies, false_implies, not_true_eq_false, not_false_eq_true, am_ne_1_0, Int32.reduceLT, Int32.reduceLE]; exact hY' _ h
    · have e1 : ¬ nI p < 0 := nI_pos (by omega)
      have e2 : ¬ nI N ≤ nI p := nI_ge hp (by omega)
      have e3 : nI p < nI N := nI_lt hp (by omega)
      obtain ⟨st', pc', mk', ex', sd', fd', pn', sk', fk', fa', fs', pX', pY', ho', aq', rl', hI', hP', hX', hY'⟩ := am_exec (C := C) (Z := Z) (N := N) (co := co) (ca := ca) (pc := pc) (sk := sk) (fs := fs) (ho := ho) (aq := aq) (rl := rl) I P ht hN hp hpc ha
      refine ⟨1, st', pc', mk', ex', sd', fd', pn', sk', fk', fa', fs', pX', pY', ho', aq', rl', hI', hP', fun post h => ?_, fun post h => ?_⟩
      · unfold wpX_step; refine am_X_al ht hM ha (br_f (by decide) (hbX _ pX (hd _ (br_t rfl (br_t hb ?_))))); simp (disch := omega) only [wpX_isCodeAddress, hpc, e1, e2, nI_clamp, pk_us, am_uu, nI_1, nI_pred, am_ip, nI_add, am_m8, am_m4, vp_in_nI, true_and, and_true, forall_eq, true_implies, false_implies, not_true_eq_false, not_false_eq_true, am_ne_1_0, Int32.reduceLT, Int32.reduceLE]; exact hX' _ h
      · unfold wY_step_122; refine hbY _ pY (br_t hb ?_); simp (disch := omega) only [wY_step_154, hpc, e1, e3, nI_clamp, pk_us, am_uu, nI_1, nI_pred, am_ip, nI_add, am_m8, am_m4, vp_in_nI, true_and, and_true, forall_eq, true_implies, false_implies, not_true_eq_false, not_false_eq_true, am_ne_1_0, Int32.reduceLT, Int32.reduceLE]; exact hY' _ h
  · refine ⟨2, st, pc, mk, ex, sd, fd, pn, sk, fk, fa, fs, pX, pY, ho, aq, rl, I, P, fun post h => ?_, fun post h => ?_⟩
    · unfold wpX_step
      exact am_X_al ht hM ha (br_f (by decide) (hbX _ pX (hd _ (br_t rfl (br_f hb h)))))
    · unfold wY_step_122
      exact hbY _ pY (br_f hb h)
theorem am_step (I : am_I M st mk ex sd fd pn fk fa) (P : am_P pn pX pY) (hN : N ≤ 64) (x : Int32) : am_OutR C Z N M co ca (fun post => wpX_step post (nI C, nI Z, nI N, nI M, co, ca, st, pc, mk, ex, sd, fd, pn, sk, fk, fa, fs, pX, ho, aq, rl) x) (fun post => wpY_step post (nI C, nI Z, nI N, nI M, co, ca, st, pc, mk, ex, sd, fd, pn, sk, fk, fa, fs, pY, ho, aq, rl) x) := by
  have hM := I.1
  rcases pk_ix x (n := M) (by omega) with q | q | ⟨t, ht, rfl⟩
  · refine ⟨0, st, pc, mk, ex, sd, fd, pn, sk, fk, fa, fs, pX, pY, ho, aq, rl, I, P, fun post h => ?_, fun post h => ?_⟩
    · simp only [wpX_step, wpX_isAlive, wpX_isThread, q, nI_clamp, pk_us, am_uu, nI_1, nI_pred, am_ip, nI_add, am_m8, am_m4, vp_in_nI, true_and, and_true, forall_eq, true_implies, false_implies, not_true_eq_false, not_false_eq_true, am_ne_1_0, Int32.reduceLT, Int32.reduceLE]
      exact h
    · exact br_t q h
  · have hz : ¬ x < 0 := am_nb (by omega) q
    refine ⟨0, st, pc, mk, ex, sd, fd, pn, sk, fk, fa, fs, pX, pY, ho, aq, rl, I, P, fun post h => ?_, fun post h => ?_⟩
    · simp only [wpX_step, wpX_isAlive, wpX_isThread, q, hz, nI_clamp, pk_us, am_uu, nI_1, nI_pred, am_ip, nI_add, am_m8, am_m4, vp_in_nI, true_and, and_true, forall_eq, true_implies, false_implies, not_true_eq_false, not_false_eq_true, am_ne_1_0, Int32.reduceLT, Int32.reduceLE]
      exact h
    · exact br_f hz (br_t q h)
  have e1 : ¬ nI t < 0 := nI_pos (by omega)
  have e2 : ¬ nI M ≤ nI t := nI_ge ht (by omega)
  by_cases ha : st t = 1
  case neg =>
    refine ⟨0, st, pc, mk, ex, sd, fd, pn, sk, fk, fa, fs, pX, pY, ho, aq, rl, I, P, fun post h => ?_, fun post h => ?_⟩
    · simp (disch := omega) only [wpX_step, wpX_isAlive, wpX_isThread, e1, e2, ha, nI_clamp, pk_us, am_uu, nI_1, nI_pred, am_ip, nI_add, am_m8, am_m4, vp_in_nI, true_and, and_true, forall_eq, true_implies, false_implies, not_true_eq_false, not_false_eq_true, am_ne_1_0, Int32.reduceLT, Int32.reduceLE]
      exact h
    · refine br_f e1 (br_f e2 ⟨vp_in_nI (by omega) (by omega), br_f ?_ h⟩)
      simp (disch := omega) only [nI_clamp]
      exact ha
  obtain ⟨b, hb, hbX, hbY⟩ := am_bl (C := C) (Z := Z) (co := co) (ca := ca) (pc := pc) (sk := sk) (fs := fs) (ho := ho) (aq := aq) (rl := rl) I ht hN
  obtain ⟨c, hc, hn⟩ := I.2.2.2.1 t
  have hyd : ∀ post : Int32 → SY → Prop, ((pn t ≤ 0 → wY_step_122 post (nI t) (nI C) (nI Z) (nI N) (nI M) co ca st pc mk ex sd fd pn sk fk fa fs pY ho aq rl) ∧ (¬ pn t ≤ 0 → ((mk t = 0 → wY_step_60 post (nI t) (nI C) (nI Z) (nI N) (nI M) co ca st pc mk ex sd fd pn sk fk fa fs pY ho aq rl) ∧ (¬ mk t = 0 → ((mk t = 1 → ((b = 0 → wY_step_122 post (nI t) (nI C) (nI Z) (nI N) (nI M) co ca st pc mk ex sd fd pn sk fk fa fs pY ho aq rl) ∧ (¬ b = 0 → wY_step_60 post (nI t) (nI C) (nI Z) (nI N) (nI M) co ca st pc mk ex sd fd pn sk fk fa fs pY ho aq rl))) ∧ (¬ mk t = 1 → wY_step_122 post (nI t) (nI C) (nI Z) (nI N) (nI M) co ca st pc mk ex sd fd pn sk fk fa fs pY ho aq rl)))))) → wpY_step post (nI C, nI Z, nI N, nI M, co, ca, st, pc, mk, ex, sd, fd, pn, sk, fk, fa, fs, pY, ho, aq, rl) (nI t) := by
    intro post h
    unfold wpY_step
    refine br_f e1 (br_f e2 ⟨vp_in_nI (by omega) (by omega), ?_⟩)
    simp (disch := omega) only [ha, nI_clamp, pk_us, am_uu, nI_1, nI_pred, am_ip, nI_add, am_m8, am_m4, vp_in_nI, true_and, and_true, forall_eq, true_implies, false_implies, not_true_eq_false, not_false_eq_true, am_ne_1_0, Int32.reduceLT, Int32.reduceLE]
    refine ⟨h.1, fun z => ⟨(h.2 z).1, fun y => ⟨fun w => hbY _ pY (((h.2 z).2 y).1 w), ((h.2 z).2 y).2⟩⟩⟩
  have fin : ∀ {WY : (Int32 → SY → Prop) → Prop}, am_OutR C Z N M co ca (fun post => wpX_step post (nI C, nI Z, nI N, nI M, co, ca, st, pc, mk, ex, sd, fd, pn, sk, fk, fa, fs, pX, ho, aq, rl) (nI t)) WY → (∀ post, WY post → wpY_step post (nI C, nI Z, nI N, nI M, co, ca, st, pc, mk, ex, sd, fd, pn, sk, fk, fa, fs, pY, ho, aq, rl) (nI t)) → am_OutR C Z N M co ca (fun post => wpX_step post (nI C, nI Z, nI N, nI M, co, ca, st, pc, mk, ex, sd, fd, pn, sk, fk, fa, fs, pX, ho, aq, rl) (nI t)) (fun post => wpY_step post (nI C, nI Z, nI N, nI M, co, ca, st, pc, mk, ex, sd, fd, pn, sk, fk, fa, fs, pY, ho, aq, rl) (nI t)) := by
    intro WY h g
    obtain ⟨r, st', pc', mk', ex', sd', fd', pn', sk', fk', fa', fs', pX', pY', ho', aq', rl', hI', hP', hX', hY'⟩ := h
    exact ⟨r, st', pc', mk', ex', sd', fd', pn', sk', fk', fa', fs', pX', pY', ho', aq', rl', hI', hP', hX', fun post h => g post (hY' post h)⟩
  cases c with
  | zero =>
    refine fin (am_nodel I P ht hN ha (b := b) (fun post h => ?_) hbX hbY) (fun post h => hyd post (br_t ?_ h))
    · simp (disch := omega) only [wpX_isDeliveryDue, hn, nI_0, nI_clamp, pk_us, am_uu, nI_1, nI_pred, am_ip, nI_add, am_m8, am_m4, vp_in_nI, true_and, and_true, forall_eq, true_implies, false_implies, not_true_eq_false, not_false_eq_true, am_ne_1_0, Int32.reduceLT, Int32.reduceLE]
      exact h
    · rw [hn]
      decide
  | succ c =>
    have e0 : ¬ nI (c + 1) = 0 := nI_ne0 (by omega) (by omega)
    have e3 : ¬ pn t ≤ 0 := by
      rw [hn]
      exact nI_nle (by omega) (by omega)
    by_cases m0 : mk t = 0
    · exact fin (am_del I P ht ha (b := b) (by omega) hn (Or.inl m0) hbX) (fun post h => hyd post (br_f e3 (br_t m0 h)))
    by_cases m1 : mk t = 1
    · by_cases hb0 : b = 0
      · refine fin (am_nodel I P ht hN ha (b := b) (fun post h => ?_) hbX hbY) (fun post h => hyd post (br_f e3 (br_f m0 (br_t m1 (br_t hb0 h)))))
        simp (disch := omega) only [wpX_isDeliveryDue, hn, e0, m1, hb0, nI_clamp, pk_us, am_uu, nI_1, nI_pred, am_ip, nI_add, am_m8, am_m4, vp_in_nI, true_and, and_true, forall_eq, true_implies, false_implies, not_true_eq_false, not_false_eq_true, am_ne_1_0, Int32.reduceLT, Int32.reduceLE]
        exact h
      · exact fin (am_del I P ht ha (b := b) (by omega) hn (Or.inr ⟨m1, hb0⟩) hbX) (fun post h => hyd post (br_f e3 (br_f m0 (br_t m1 (br_f hb0 h)))))
    · refine fin (am_nodel I P ht hN ha (b := b) (fun post h => ?_) hbX hbY) (fun post h => hyd post (br_f e3 (br_f m0 (br_f m1 h))))
      simp (disch := omega) only [wpX_isDeliveryDue, hn, e0, m0, m1, nI_clamp, pk_us, am_uu, nI_1, nI_pred, am_ip, nI_add, am_m8, am_m4, vp_in_nI, true_and, and_true, forall_eq, true_implies, false_implies, not_true_eq_false, not_false_eq_true, am_ne_1_0, Int32.reduceLT, Int32.reduceLE]
      exact h
end
