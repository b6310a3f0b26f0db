def am_OutR (b C Z N M : Nat) (co ca : Nat → Int32) (WX : (Int32 → St2 → Prop) → Prop) : Prop := ∃ (r : Int32) (st pc mk ex sd fd pn sk fk fa fs pd ho aq rl : Nat → Int32), am_I M st mk ex sd fd pn fk fa ∧ am_K b M st fd fk fa ho aq rl ∧ (∀ post : Int32 → St2 → Prop, post r (nI C, nI Z, nI N, nI M, co, ca, st, pc, mk, ex, sd, fd, pn, sk, fk, fa, fs, pd, ho, aq, rl) → WX post)
section
variable {b C Z N M t p d : Nat} {co ca st pc mk ex sd fd pn sk fk fa fs pd ho aq rl : Nat → Int32}
theorem am_X_rem {e : Int32} {c : Nat} (ht : t < 4) (hc : c < 4) : ∀ (m i : Nat) (q : Nat → Int32), i + m = c → ∃ q' : Nat → Int32, ∀ (post : Int32 → St2 → Prop) (f : Nat), m < f → (∀ g, wX_removeOldestPending_26 post (nI t) (nI (t * 4 + c)) e (nI C) (nI Z) (nI N) (nI M) (g + 1) (nI (t * 4 + c)) co ca st pc mk ex sd fd pn sk fk fa fs q' ho aq rl) → wX_removeOldestPending_26 post (nI t) (nI (t * 4 + c)) e (nI C) (nI Z) (nI N) (nI M) f (nI (t * 4 + i)) co ca st pc mk ex sd fd pn sk fk fa fs q ho aq rl := by
  intro m
  induction m with
  | zero =>
    intro i q hi
    obtain rfl : i = c := by omega
    refine ⟨q, fun post f hf hp => ?_⟩
    obtain ⟨f, rfl⟩ : ∃ g, f = g + 1 := ⟨f - 1, by omega⟩
    exact hp f
  | succ m ih =>
    intro i q hi
    obtain ⟨q', H⟩ := ih (i + 1) (upd q (t * 4 + i) (q (t * 4 + (i + 1)))) (by omega)
    refine ⟨q', fun post f hf hp => ?_⟩
    obtain ⟨f, rfl⟩ : ∃ g, f = g + 1 := ⟨f - 1, by omega⟩
    have hq := H post f (by omega) hp
    rw [wX_removeOldestPending_26]
    refine br_f (nI_ge (by omega) (by omega)) ?_
    simp (disch := omega) only [Nat.add_assoc, nI_clamp, pk_us, am_uu, nI_1, nI_pred, am_ip, nI_add, am_m8, am_m4, vp_in_nI, true_and, and_true, forall_eq, true_implies, false_implies, not_true_eq_false, not_false_eq_true, am_ne_1_0, Int32.reduceLT, Int32.reduceLE]
    exact hq
theorem am_X_al (ht : t < M) (hM : M ≤ 4) (ha : st t = 1) {post : Int32 → Prop} (h : post 1) : wpX_isAlive post (nI C, nI Z, nI N, nI M, co, ca, st, pc, mk, ex, sd, fd, pn, sk, fk, fa, fs, pd, ho, aq, rl) (nI t) := by
  have e1 : ¬ nI t < 0 := nI_pos (by omega)
  have e2 : ¬ nI M ≤ nI t := nI_ge ht (by omega)
  simp (disch := omega) only [wpX_isAlive, wpX_isThread, e1, e2, ha, nI_clamp, pk_us, am_uu, nI_1, nI_pred, am_ip, nI_add, am_m8, am_m4, vp_in_nI, true_and, and_true, forall_eq, true_implies, false_implies, not_true_eq_false, not_false_eq_true, am_ne_1_0, Int32.reduceLT, Int32.reduceLE]
  exact h
theorem am_del (I : am_I M st mk ex sd fd pn fk fa) (K : am_K b M st fd fk fa ho aq rl) (ht : t < M) (ha : st t = 1) {c : Nat} {y : Int32} (hc : c < 4) (hn : pn t = nI (c + 1)) (hd : ∀ post : Int32 → Prop, post 1 → wpX_isDeliveryDue post (nI C, nI Z, nI N, nI M, co, ca, st, pc, mk, ex, sd, fd, pn, sk, fk, fa, fs, pd, ho, aq, rl) (nI t) y) (hbX : ∀ post : Int32 → Prop, post y → wpX_isBlocked post (nI C, nI Z, nI N, nI M, co, ca, st, pc, mk, ex, sd, fd, pn, sk, fk, fa, fs, pd, ho, aq, rl) (nI t)) : am_OutR b C Z N M co ca (fun post => wpX_step post (nI C, nI Z, nI N, nI M, co, ca, st, pc, mk, ex, sd, fd, pn, sk, fk, fa, fs, pd, ho, aq, rl) (nI t)) := by
  have hM := I.1
  obtain ⟨qX, RX⟩ := am_X_rem (C := C) (Z := Z) (N := N) (M := M) (co := co) (ca := ca) (st := st) (pc := pc) (mk := mk) (ex := ex) (sd := sd) (fd := fd) (pn := pn) (sk := sk) (fk := fk) (fa := fa) (fs := fs) (ho := ho) (aq := aq) (rl := rl) (t := t) (e := pd (t * 4)) (by omega) hc c 0 pd (by omega)
  simp only [Nat.add_zero] at RX
  obtain ⟨st', pc', mk', ex', sd', fd', pn', sk', fk', fa', fs', pd', ho', aq', rl', hI', hK', hX'⟩ := am_raise (C := C) (Z := Z) (N := N) (co := co) (ca := ca) (pc := pc) (sk := sk) (fs := fs) (pd := qX) (e := pd (t * 4)) (am_I_pn (d := c) I ht (by omega)) K ht
  refine ⟨3, st', pc', mk', ex', sd', fd', pn', sk', fk', fa', fs', pd', ho', aq', rl', hI', hK', fun post h => ?_⟩
  unfold wpX_step
  refine am_X_al ht hM ha (br_f (by decide) (hbX _ ?_))
  refine hd _ (br_f (by decide) ?_)
  simp (disch := omega) only [wpX_removeOldestPending, hn, nI_clamp, pk_us, am_uu, nI_1, nI_pred, am_ip, nI_add, am_m8, am_m4, vp_in_nI, true_and, and_true, forall_eq, true_implies, false_implies, not_true_eq_false, not_false_eq_true, am_ne_1_0, Int32.reduceLT, Int32.reduceLE]
  refine ⟨c + 1, RX _ (c + 1) (by omega) fun g => ?_⟩
  rw [wX_removeOldestPending_26]
  refine br_t (nI_le (by omega) (by omega)) ?_
  simp (disch := omega) only [hn, nI_clamp, pk_us, am_uu, nI_1, nI_pred, am_ip, nI_add, am_m8, am_m4, vp_in_nI, true_and, and_true, forall_eq, true_implies, false_implies, not_true_eq_false, not_false_eq_true, am_ne_1_0, Int32.reduceLT, Int32.reduceLE]
  exact hX' _ h
theorem am_nodel (I : am_I M st mk ex sd fd pn fk fa) (K : am_K b M st fd fk fa ho aq rl) (ht : t < M) (hN : N ≤ 64) (ha : st t = 1) {y : Int32} (hd : ∀ post : Int32 → Prop, post 0 → wpX_isDeliveryDue post (nI C, nI Z, nI N, nI M, co, ca, st, pc, mk, ex, sd, fd, pn, sk, fk, fa, fs, pd, ho, aq, rl) (nI t) y) (hbX : ∀ post : Int32 → Prop, post y → wpX_isBlocked post (nI C, nI Z, nI N, nI M, co, ca, st, pc, mk, ex, sd, fd, pn, sk, fk, fa, fs, pd, ho, aq, rl) (nI t)) (hB : y = 0 → ∀ p r, p < N → pc t = nI p → r < 8 → co p = 14 → ca p = nI r → ho r = -1) : am_OutR (b + 1) C Z N M co ca (fun post => wpX_step post (nI C, nI Z, nI N, nI M, co, ca, st, pc, mk, ex, sd, fd, pn, sk, fk, fa, fs, pd, ho, aq, rl) (nI t)) := by
  have hM := I.1
  have K1 := am_K_s K hM
  by_cases hb : y = 0
  · rcases pk_ix (pc t) (n := N) (by omega) with hp | hp | ⟨p, hp, hpc⟩
    · obtain ⟨st', pc', mk', ex', sd', fd', pn', sk', fk', fa', fs', pd', ho', aq', rl', hI', hK', hX'⟩ := am_raise (C := C) (Z := Z) (N := N) (co := co) (ca := ca) (pc := pc) (sk := sk) (fs := fs) (pd := pd) (e := -5) I K1 ht
      refine ⟨1, st', pc', mk', ex', sd', fd', pn', sk', fk', fa', fs', pd', ho', aq', rl', hI', hK', fun post h => ?_⟩
      unfold wpX_step; refine am_X_al ht hM ha (br_f (by decide) (hbX _ (hd _ (br_t rfl (br_t hb ?_))))); simp (disch := omega) only [wpX_isCodeAddress, hp, nI_clamp, pk_us, am_uu, nI_1, nI_pred, am_ip, nI_add, am_m8, am_m4, vp_in_nI, true_and, and_true, forall_eq, true_implies, false_implies, not_true_eq_false, not_false_eq_true, am_ne_1_0, Int32.reduceLT, Int32.reduceLE]; exact hX' _ h
    · have hz : ¬ pc t < 0 := am_nb (by omega) hp
      obtain ⟨st', pc', mk', ex', sd', fd', pn', sk', fk', fa', fs', pd', ho', aq', rl', hI', hK', hX'⟩ := am_raise (C := C) (Z := Z) (N := N) (co := co) (ca := ca) (pc := pc) (sk := sk) (fs := fs) (pd := pd) (e := -5) I K1 ht
      refine ⟨1, st', pc', mk', ex', sd', fd', pn', sk', fk', fa', fs', pd', ho', aq', rl', hI', hK', fun post h => ?_⟩
      unfold wpX_step; refine am_X_al ht hM ha (br_f (by decide) (hbX _ (hd _ (br_t rfl (br_t hb ?_))))); simp (disch := omega) only [wpX_isCodeAddress, hp, hz, nI_clamp, pk_us, am_uu, nI_1, nI_pred, am_ip, nI_add, am_m8, am_m4, vp_in_nI, true_and, and_true, forall_eq, true_implies, false_implies, not_true_eq_false, not_false_eq_true, am_ne_1_0, Int32.reduceLT, Int32.reduceLE]; exact hX' _ h
    · have e1 : ¬ nI p < 0 := nI_pos (by omega)
      have e2 : ¬ nI N ≤ nI p := nI_ge hp (by omega)
      obtain ⟨st', pc', mk', ex', sd', fd', pn', sk', fk', fa', fs', pd', ho', aq', rl', hI', hK', hX'⟩ := am_exec (C := C) (Z := Z) (N := N) (co := co) (ca := ca) (pc := pc) (sk := sk) (fs := fs) (pd := pd) I K ht hN hp hpc ha (fun r hr h14 q => hB hb p r hp hpc hr h14 q)
      refine ⟨1, st', pc', mk', ex', sd', fd', pn', sk', fk', fa', fs', pd', ho', aq', rl', hI', hK', fun post h => ?_⟩
      unfold wpX_step; refine am_X_al ht hM ha (br_f (by decide) (hbX _ (hd _ (br_t rfl (br_t hb ?_))))); simp (disch := omega) only [wpX_isCodeAddress, hpc, e1, e2, nI_clamp, pk_us, am_uu, nI_1, nI_pred, am_ip, nI_add, am_m8, am_m4, vp_in_nI, true_and, and_true, forall_eq, true_implies, false_implies, not_true_eq_false, not_false_eq_true, am_ne_1_0, Int32.reduceLT, Int32.reduceLE]; exact hX' _ h
  · refine ⟨2, st, pc, mk, ex, sd, fd, pn, sk, fk, fa, fs, pd, ho, aq, rl, I, K1, fun post h => ?_⟩
    unfold wpX_step
    exact am_X_al ht hM ha (br_f (by decide) (hbX _ (hd _ (br_t rfl (br_f hb h)))))
theorem am_step (I : am_I M st mk ex sd fd pn fk fa) (K : am_K b M st fd fk fa ho aq rl) (hN : N ≤ 64) (x : Int32) : am_OutR (b + 1) C Z N M co ca (fun post => wpX_step post (nI C, nI Z, nI N, nI M, co, ca, st, pc, mk, ex, sd, fd, pn, sk, fk, fa, fs, pd, ho, aq, rl) x) := by
  have hM := I.1
  have K1 := am_K_s K hM
  rcases pk_ix x (n := M) (by omega) with q | q | ⟨t, ht, rfl⟩
  · refine ⟨0, st, pc, mk, ex, sd, fd, pn, sk, fk, fa, fs, pd, ho, aq, rl, I, K1, fun post h => ?_⟩
    simp only [wpX_step, wpX_isAlive, wpX_isThread, q, nI_clamp, pk_us, am_uu, nI_1, nI_pred, am_ip, nI_add, am_m8, am_m4, vp_in_nI, true_and, and_true, forall_eq, true_implies, false_implies, not_true_eq_false, not_false_eq_true, am_ne_1_0, Int32.reduceLT, Int32.reduceLE]
    exact h
  · have hz : ¬ x < 0 := am_nb (by omega) q
    refine ⟨0, st, pc, mk, ex, sd, fd, pn, sk, fk, fa, fs, pd, ho, aq, rl, I, K1, fun post h => ?_⟩
    simp only [wpX_step, wpX_isAlive, wpX_isThread, q, hz, nI_clamp, pk_us, am_uu, nI_1, nI_pred, am_ip, nI_add, am_m8, am_m4, vp_in_nI, true_and, and_true, forall_eq, true_implies, false_implies, not_true_eq_false, not_false_eq_true, am_ne_1_0, Int32.reduceLT, Int32.reduceLE]
    exact h
  have e1 : ¬ nI t < 0 := nI_pos (by omega)
  have e2 : ¬ nI M ≤ nI t := nI_ge ht (by omega)
  by_cases ha : st t = 1
  case neg =>
    refine ⟨0, st, pc, mk, ex, sd, fd, pn, sk, fk, fa, fs, pd, ho, aq, rl, I, K1, fun post h => ?_⟩
    simp (disch := omega) only [wpX_step, wpX_isAlive, wpX_isThread, e1, e2, ha, nI_clamp, pk_us, am_uu, nI_1, nI_pred, am_ip, nI_add, am_m8, am_m4, vp_in_nI, true_and, and_true, forall_eq, true_implies, false_implies, not_true_eq_false, not_false_eq_true, am_ne_1_0, Int32.reduceLT, Int32.reduceLE]
    exact h
  obtain ⟨y, hbX, hB⟩ := am_bl2 (C := C) (Z := Z) (co := co) (ca := ca) (pc := pc) (sk := sk) (fs := fs) (pd := pd) (ho := ho) (aq := aq) (rl := rl) I ht hN ha
  obtain ⟨c, hc, hn⟩ := I.2.2.2.1 t
  cases c with
  | zero =>
    refine am_nodel I K ht hN ha (fun post h => ?_) hbX hB
    simp (disch := omega) only [wpX_isDeliveryDue, hn, nI_0, nI_clamp, pk_us, am_uu, nI_1, nI_pred, am_ip, nI_add, am_m8, am_m4, vp_in_nI, true_and, and_true, forall_eq, true_implies, false_implies, not_true_eq_false, not_false_eq_true, am_ne_1_0, Int32.reduceLT, Int32.reduceLE]
    exact h
  | succ c =>
    have e0 : ¬ nI (c + 1) = 0 := nI_ne0 (by omega) (by omega)
    by_cases m0 : mk t = 0
    · refine am_del I K1 ht ha (by omega) hn (fun post h => ?_) hbX
      simp (disch := omega) only [wpX_isDeliveryDue, hn, e0, m0, nI_clamp, pk_us, am_uu, nI_1, nI_pred, am_ip, nI_add, am_m8, am_m4, vp_in_nI, true_and, and_true, forall_eq, true_implies, false_implies, not_true_eq_false, not_false_eq_true, am_ne_1_0, Int32.reduceLT, Int32.reduceLE]
      exact h
    by_cases m1 : mk t = 1
    · by_cases hb0 : y = 0
      · refine am_nodel I K ht hN ha (fun post h => ?_) hbX hB
        simp (disch := omega) only [wpX_isDeliveryDue, hn, e0, m1, hb0, nI_clamp, pk_us, am_uu, nI_1, nI_pred, am_ip, nI_add, am_m8, am_m4, vp_in_nI, true_and, and_true, forall_eq, true_implies, false_implies, not_true_eq_false, not_false_eq_true, am_ne_1_0, Int32.reduceLT, Int32.reduceLE]
        exact h
      · refine am_del I K1 ht ha (by omega) hn (fun post h => ?_) hbX
        simp (disch := omega) only [wpX_isDeliveryDue, hn, e0, m1, hb0, nI_clamp, pk_us, am_uu, nI_1, nI_pred, am_ip, nI_add, am_m8, am_m4, vp_in_nI, true_and, and_true, forall_eq, true_implies, false_implies, not_true_eq_false, not_false_eq_true, am_ne_1_0, Int32.reduceLT, Int32.reduceLE]
        exact h
    · refine am_nodel I K ht hN ha (fun post h => ?_) hbX hB
      simp (disch := omega) only [wpX_isDeliveryDue, hn, e0, m0, m1, nI_clamp, pk_us, am_uu, nI_1, nI_pred, am_ip, nI_add, am_m8, am_m4, vp_in_nI, true_and, and_true, forall_eq, true_implies, false_implies, not_true_eq_false, not_false_eq_true, am_ne_1_0, Int32.reduceLT, Int32.reduceLE]
      exact h
theorem am_load (hZ : Z ≤ 64) (hN : N ≤ Z) (x y : Int32) : ∃ (r : Int32) (N' : Nat) (co' ca' : Nat → Int32), N' ≤ Z ∧ ∀ post : Int32 → St2 → Prop, post r (nI C, nI Z, nI N', nI M, co', ca', st, pc, mk, ex, sd, fd, pn, sk, fk, fa, fs, pd, ho, aq, rl) → wpX_load post (nI C, nI Z, nI N, nI M, co, ca, st, pc, mk, ex, sd, fd, pn, sk, fk, fa, fs, pd, ho, aq, rl) x y := by
  by_cases e : N = Z
  · subst e
    exact ⟨0, N, co, ca, hN, fun post h => br_t rfl h⟩
  have e1 : ¬ nI N = nI Z := fun q => e ((nI_eq (by omega) (by omega)).mp q)
  by_cases h0 : x < 0
  · exact ⟨0, N, co, ca, hN, fun post h => br_f e1 (br_t h0 h)⟩
  by_cases h1 : x ≤ 15
  · have hi : vp_in (nI N) 64 := vp_in_nI (by omega) (by omega)
    exact ⟨1, N + 1, _, _, by omega, fun post h => br_f e1 (br_f h0 (br_t h1 ⟨hi, nm_e ⟨hi, nm_e (nm_r (nI_1 N) h)⟩⟩))⟩
  · exact ⟨0, N, co, ca, hN, fun post h => br_f e1 (br_f h0 (br_f h1 h))⟩
theorem am_spawn (I : am_I M st mk ex sd fd pn fk fa) (K : am_K b M st fd fk fa ho aq rl) (hC : C ≤ 4) (hM : M ≤ C) (x : Int32) : ∃ (r : Int32) (M' : Nat) (st' pc' : Nat → Int32), M' ≤ C ∧ am_I M' st' mk ex sd fd pn fk fa ∧ am_K b M' st' fd fk fa ho aq rl ∧ ∀ post : Int32 → St2 → Prop, post r (nI C, nI Z, nI N, nI M', co, ca, st', pc', mk, ex, sd, fd, pn, sk, fk, fa, fs, pd, ho, aq, rl) → wpX_spawn post (nI C, nI Z, nI N, nI M, co, ca, st, pc, mk, ex, sd, fd, pn, sk, fk, fa, fs, pd, ho, aq, rl) x := by
  by_cases e : M = C
  · subst e
    exact ⟨-1, M, st, pc, hM, I, K, fun post h => br_t rfl h⟩
  have e1 : ¬ nI M = nI C := fun q => e ((nI_eq (by omega) (by omega)).mp q)
  refine ⟨nI M, M + 1, upd st M 1, upd pc M x, by omega, am_I_sp I (by omega), am_K_sp K (by omega), fun post h => ?_⟩
  simp (disch := omega) only [wpX_spawn, e1, nI_clamp, pk_us, am_uu, nI_1, nI_pred, am_ip, nI_add, am_m8, am_m4, vp_in_nI, true_and, and_true, forall_eq, true_implies, false_implies, not_true_eq_false, not_false_eq_true, am_ne_1_0, Int32.reduceLT, Int32.reduceLE]
  exact h
theorem am_throwTo (I : am_I M st mk ex sd fd pn fk fa) (x y : Int32) : ∃ (r : Int32) (pn' pd' : Nat → Int32), am_I M st mk ex sd fd pn' fk fa ∧ ∀ post : Int32 → St2 → Prop, post r (nI C, nI Z, nI N, nI M, co, ca, st, pc, mk, ex, sd, fd, pn', sk, fk, fa, fs, pd', ho, aq, rl) → wpX_throwTo post (nI C, nI Z, nI N, nI M, co, ca, st, pc, mk, ex, sd, fd, pn, sk, fk, fa, fs, pd, ho, aq, rl) x y := by
  have hM := I.1
  rcases pk_ix x (n := M) (by omega) with q | q | ⟨t, ht, rfl⟩
  · refine ⟨0, pn, pd, I, fun post h => ?_⟩
    simp only [wpX_throwTo, wpX_isAlive, wpX_isThread, q, nI_clamp, pk_us, am_uu, nI_1, nI_pred, am_ip, nI_add, am_m8, am_m4, vp_in_nI, true_and, and_true, forall_eq, true_implies, false_implies, not_true_eq_false, not_false_eq_true, am_ne_1_0, Int32.reduceLT, Int32.reduceLE]
    exact h
  · have hz : ¬ x < 0 := am_nb (by omega) q
    refine ⟨0, pn, pd, I, fun post h => ?_⟩
    simp only [wpX_throwTo, wpX_isAlive, wpX_isThread, q, hz, nI_clamp, pk_us, am_uu, nI_1, nI_pred, am_ip, nI_add, am_m8, am_m4, vp_in_nI, true_and, and_true, forall_eq, true_implies, false_implies, not_true_eq_false, not_false_eq_true, am_ne_1_0, Int32.reduceLT, Int32.reduceLE]
    exact h
  have e1 : ¬ nI t < 0 := nI_pos (by omega)
  have e2 : ¬ nI M ≤ nI t := nI_ge ht (by omega)
  by_cases ha : st t = 1
  case neg =>
    refine ⟨0, pn, pd, I, fun post h => ?_⟩
    simp (disch := omega) only [wpX_throwTo, wpX_isAlive, wpX_isThread, e1, e2, ha, nI_clamp, pk_us, am_uu, nI_1, nI_pred, am_ip, nI_add, am_m8, am_m4, vp_in_nI, true_and, and_true, forall_eq, true_implies, false_implies, not_true_eq_false, not_false_eq_true, am_ne_1_0, Int32.reduceLT, Int32.reduceLE]
    exact h
  obtain ⟨c, hc, hn⟩ := I.2.2.2.1 t
  by_cases c4 : c = 4
  · subst c4
    have hn : pn t = 4 := hn
    refine ⟨0, pn, pd, I, fun post h => ?_⟩
    simp (disch := omega) only [wpX_throwTo, wpX_isAlive, wpX_isThread, wpX_appendPending, e1, e2, ha, hn, nI_clamp, pk_us, am_uu, nI_1, nI_pred, am_ip, nI_add, am_m8, am_m4, vp_in_nI, true_and, and_true, forall_eq, true_implies, false_implies, not_true_eq_false, not_false_eq_true, am_ne_1_0, Int32.reduceLT, Int32.reduceLE]
    exact h
  have e4 : ¬ nI c = 4 := fun q => by rw [am_eq4 (by omega)] at q; omega
  refine ⟨1, upd pn t (nI (c + 1)), upd pd (t * 4 + c) y, am_I_pn I ht (by omega), fun post h => ?_⟩
  simp (disch := omega) only [wpX_throwTo, wpX_isAlive, wpX_isThread, wpX_appendPending, e1, e2, e4, ha, hn, nI_clamp, pk_us, am_uu, nI_1, nI_pred, am_ip, nI_add, am_m8, am_m4, vp_in_nI, true_and, and_true, forall_eq, true_implies, false_implies, not_true_eq_false, not_false_eq_true, am_ne_1_0, Int32.reduceLT, Int32.reduceLE]
  exact h
end
