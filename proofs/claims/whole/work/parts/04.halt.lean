section
variable {C Z N M t p d : Nat} {co ca st pc mk ex sd fd pn sk fk fa fs pd pX pY ho aq rl : Nat → Int32}
theorem am_Y_idle (ht : t < 4) (hf : fd t = 0) {post : SY → Prop} (h : post (nI C, nI Z, nI N, nI M, co, ca, (upd st t 2), pc, mk, ex, (upd sd t 0), fd, (upd pn t 0), sk, fk, fa, fs, pd, ho, aq, rl)) : ∀ k n f, n + k = 8 → k < f → wY_exec_755 post (nI t) f (nI n) (nI C) (nI Z) (nI N) (nI M) co ca st pc mk ex sd fd pn sk fk fa fs pd ho aq rl := by
  intro k
  induction k with
  | zero =>
    intro n f hn hf'
    obtain ⟨f, rfl⟩ : ∃ g, f = g + 1 := ⟨f - 1, by omega⟩
    obtain rfl : n = 8 := by omega
    rw [wY_exec_755]
    refine br_t (by decide) ?_
    simp (disch := omega) only [nI_clamp, pk_us, am_uu, nI_1, nI_pred, am_ip, nI_add, am_m8, am_m4, vp_in_nI, true_and, and_true, forall_eq, true_implies, false_implies, not_true_eq_false, not_false_eq_true, am_ne_1_0, Int32.reduceLT, Int32.reduceLE]
    exact h
  | succ k ih =>
    intro n f hn hf'
    obtain ⟨f, rfl⟩ : ∃ g, f = g + 1 := ⟨f - 1, by omega⟩
    rw [wY_exec_755]
    refine br_f (nI_ge (b := 8) (by omega) (by omega)) ?_
    simp (disch := omega) only [hf, nI_clamp, pk_us, am_uu, nI_1, nI_pred, am_ip, nI_add, am_m8, am_m4, vp_in_nI, true_and, and_true, forall_eq, true_implies, false_implies, not_true_eq_false, not_false_eq_true, am_ne_1_0, Int32.reduceLT, Int32.reduceLE]
    exact ih (n + 1) f (by omega) (by omega)
theorem am_ha (ht : t < M) (P : am_P pn pX pY) (hx : ex t = 0) : ∀ (d : Nat) (mk fd ho rl : Nat → Int32), d ≤ 8 → fd t = nI d → am_I M st mk ex sd fd pn fk fa → am_Out C Z N M co ca (fun post => ∀ f, d < f → wX_halt_7 post (nI t) f (nI d) (nI C) (nI Z) (nI N) (nI M) co ca st pc mk ex sd fd pn sk fk fa fs pX ho aq rl) (fun post => ∀ n f, n + d ≤ 8 → 8 - n < f → wY_exec_755 post (nI t) f (nI n) (nI C) (nI Z) (nI N) (nI M) co ca st pc mk ex sd fd pn sk fk fa fs pY ho aq rl) := by
  intro d
  induction d with
  | zero =>
    intro mk fd ho rl hd hf I
    have hM := I.1
    have J := am_I_se (x := 2) (y := 0) I ht (by decide)
    rw [am_uk hx] at J
    refine ⟨(upd st t 2), pc, mk, ex, (upd sd t 0), fd, (upd pn t 0), sk, fk, fa, fs, pX, pY, ho, aq, rl, ?_, am_P_z P, fun post h f hf' => ?_, fun post h n f hn hf' => ?_⟩
    · exact am_I_pn (d := 0) (am_I_sd (d := 0) J ht (by omega)) ht (by omega)
    · obtain ⟨f, rfl⟩ : ∃ g, f = g + 1 := ⟨f - 1, by omega⟩
      rw [wX_halt_7]
      refine br_t (by decide) (am_X_fin (by omega) ?_)
      simp only [am_uk hx]
      exact h
    · exact am_Y_idle (by omega) hf h (8 - n) n f (by omega) hf'
  | succ d ih =>
    intro mk fd ho rl hd hf I
    have hM := I.1
    have hF := I.2.2.2.2.1
    have I' := am_I_fd (d := d) (am_I_mk (x := fs (t * 8 + d)) I ht) ht (by omega)
    obtain ⟨st', pc', mk', ex', sd', fd', pn', sk', fk', fa', fs', pX', pY', ho', aq', rl', hI', hP', hX', hY'⟩ := ih _ _ (am_ho fk fa ho (t * 8 + d)) (am_rl fk fa rl (t * 8 + d)) (by omega) pk_us I'
    refine ⟨st', pc', mk', ex', sd', fd', pn', sk', fk', fa', fs', pX', pY', ho', aq', rl', hI', hP', fun post h f hf' => ?_, fun post h n f hn hf' => ?_⟩
    · obtain ⟨f, rfl⟩ : ∃ g, f = g + 1 := ⟨f - 1, by omega⟩
      rw [wX_halt_7]
      refine br_f (nI_nle (by omega) (by omega)) (am_X_pop hF (by omega) (by omega) hf ?_)
      simp (disch := omega) only [pk_m1, nI_clamp, pk_us, am_uu, nI_1, nI_pred, am_ip, nI_add, am_m8, am_m4, vp_in_nI, true_and, and_true, forall_eq, true_implies, false_implies, not_true_eq_false, not_false_eq_true, am_ne_1_0, Int32.reduceLT, Int32.reduceLE]
      exact hX' post h f (by omega)
    · obtain ⟨f, rfl⟩ : ∃ g, f = g + 1 := ⟨f - 1, by omega⟩
      rw [wY_exec_755]
      refine br_f (nI_ge (b := 8) (by omega) (by omega)) ?_
      refine ⟨vp_in_nI (by omega) (by omega), br_f ?_ (am_Y_pop hF (by omega) (by omega) hf ?_)⟩
      · simp (disch := omega) only [hf, nI_clamp, pk_us, am_uu, nI_1, nI_pred, am_ip, nI_add, am_m8, am_m4, vp_in_nI, true_and, and_true, forall_eq, true_implies, false_implies, not_true_eq_false, not_false_eq_true, am_ne_1_0, Int32.reduceLT, Int32.reduceLE]
        exact nI_nle (by omega) (by omega)
      · simp (disch := omega) only [nI_clamp, pk_us, am_uu, nI_1, nI_pred, am_ip, nI_add, am_m8, am_m4, vp_in_nI, true_and, and_true, forall_eq, true_implies, false_implies, not_true_eq_false, not_false_eq_true, am_ne_1_0, Int32.reduceLT, Int32.reduceLE]
        exact hY' post h (n + 1) f (by omega) (by omega)
end
