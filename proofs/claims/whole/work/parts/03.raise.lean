section
variable {C Z N M t p d : Nat} {co ca st pc mk ex sd fd pn sk fk fa fs pd pX pY ho aq rl : Nat → Int32}
theorem am_X_fin {x e : Int32} (ht : t < 4) {post : SX → Prop} (h : post (nI C, nI Z, nI N, nI M, co, ca, (upd st t x), pc, mk, (upd ex t e), (upd sd t 0), fd, (upd pn t 0), sk, fk, fa, fs, pd, ho, aq, rl)) : wpX_finish post (nI C, nI Z, nI N, nI M, co, ca, st, pc, mk, ex, sd, fd, pn, sk, fk, fa, fs, pd, ho, aq, rl) (nI t) x e := by
  simp (disch := omega) only [wpX_finish, nI_clamp, pk_us, am_uu, nI_1, nI_pred, am_ip, nI_add, am_m8, am_m4, vp_in_nI, true_and, and_true, forall_eq, true_implies, false_implies, not_true_eq_false, not_false_eq_true, am_ne_1_0, Int32.reduceLT, Int32.reduceLE]
  exact h
theorem am_ra {e : Int32} (ht : t < M) (P : am_P pn pX pY) : ∀ (d : Nat) (mk fd ho rl : Nat → Int32), d ≤ 8 → fd t = nI d → am_I M st mk ex sd fd pn fk fa → am_Out C Z N M co ca (fun post => ∀ f, d < f → wX_raise_7 post (nI t) e f (nI d) (nI C) (nI Z) (nI N) (nI M) co ca st pc mk ex sd fd pn sk fk fa fs pX ho aq rl) (fun post => ∀ n f, n + d ≤ 8 → d < f → wY_raise_2 post (nI t) e f (nI n) (nI C) (nI Z) (nI N) (nI M) co ca st pc mk ex sd fd pn sk fk fa fs pY ho aq rl) := by
  intro d
  induction d with
  | zero =>
    intro mk fd ho rl hd hf I
    have hM := I.1
    refine ⟨(upd st t 3), pc, mk, (upd ex t e), (upd sd t 0), fd, (upd pn t 0), sk, fk, fa, fs, pX, pY, ho, aq, rl, ?_, am_P_z P, fun post h f hf' => ?_, fun post h n f hn hf' => ?_⟩
    · exact am_I_pn (d := 0) (am_I_sd (d := 0) (am_I_se I ht (by decide)) ht (by omega)) ht (by omega)
    · obtain ⟨f, rfl⟩ : ∃ g, f = g + 1 := ⟨f - 1, by omega⟩
      rw [wX_raise_7]
      refine br_t (by decide) (am_X_fin (by omega) ?_)
      exact h
    · obtain ⟨f, rfl⟩ : ∃ g, f = g + 1 := ⟨f - 1, by omega⟩
      rw [wY_raise_2]
      refine br_f (nI_nlt (a := 8) (by omega) (by omega)) ?_
      have hf0 : upd fd t 0 = fd := am_uk hf
      simp (disch := omega) only [hf, hf0, nI_0, nI_clamp, pk_us, am_uu, nI_1, nI_pred, am_ip, nI_add, am_m8, am_m4, vp_in_nI, true_and, and_true, forall_eq, true_implies, false_implies, not_true_eq_false, not_false_eq_true, am_ne_1_0, Int32.reduceLT, Int32.reduceLE]
      exact h
  | succ d ih =>
    intro mk fd ho rl hd hf I
    have hM := I.1
    have hF := I.2.2.2.2.1
    have I' := am_I_fd (d := d) (am_I_mk (x := fs (t * 8 + d)) I ht) ht (by omega)
    by_cases hk : fk (t * 8 + d) = 1
    · refine ⟨st, (upd pc t (fa (t * 8 + d))), (upd mk t (fs (t * 8 + d))), ex, (upd sd t 1), (upd fd t (nI d)), pn, (upd sk (t * 8) e), fk, fa, fs, pX, pY, (am_ho fk fa ho (t * 8 + d)), aq, (am_rl fk fa rl (t * 8 + d)), am_I_sd (d := 1) I' ht (by omega), P, fun post h f hf' => ?_, fun post h n f hn hf' => ?_⟩
      · obtain ⟨f, rfl⟩ : ∃ g, f = g + 1 := ⟨f - 1, by omega⟩
        rw [wX_raise_7]
        refine br_f (nI_nle (by omega) (by omega)) (am_X_pop hF (by omega) (by omega) hf ?_)
        simp (disch := omega) only [hk, nI_clamp, pk_us, am_uu, nI_1, nI_pred, am_ip, nI_add, am_m8, am_m4, vp_in_nI, true_and, and_true, forall_eq, true_implies, false_implies, not_true_eq_false, not_false_eq_true, am_ne_1_0, Int32.reduceLT, Int32.reduceLE]
        exact h
      · obtain ⟨f, rfl⟩ : ∃ g, f = g + 1 := ⟨f - 1, by omega⟩
        rw [wY_raise_2]
        refine br_f (nI_nlt (a := 8) (by omega) (by omega)) ?_
        refine ⟨vp_in_nI (by omega) (by omega), br_f ?_ (am_Y_pop hF (by omega) (by omega) hf ?_)⟩
        · simp (disch := omega) only [hf, nI_clamp, pk_us, am_uu, nI_1, nI_pred, am_ip, nI_add, am_m8, am_m4, vp_in_nI, true_and, and_true, forall_eq, true_implies, false_implies, not_true_eq_false, not_false_eq_true, am_ne_1_0, Int32.reduceLT, Int32.reduceLE]
          exact nI_ne0 (by omega) (by omega)
        · simp (disch := omega) only [hk, wpY_push, Int32.add_zero, Int32.zero_add, nI_clamp, pk_us, am_uu, nI_1, nI_pred, am_ip, nI_add, am_m8, am_m4, vp_in_nI, true_and, and_true, forall_eq, true_implies, false_implies, not_true_eq_false, not_false_eq_true, am_ne_1_0, Int32.reduceLT, Int32.reduceLE]
          exact h
    · obtain ⟨st', pc', mk', ex', sd', fd', pn', sk', fk', fa', fs', pX', pY', ho', aq', rl', hI', hP', hX', hY'⟩ := ih _ _ (am_ho fk fa ho (t * 8 + d)) (am_rl fk fa rl (t * 8 + d)) (by omega) pk_us I'
      refine ⟨st', pc', mk', ex', sd', fd', pn', sk', fk', fa', fs', pX', pY', ho', aq', rl', hI', hP', fun post h f hf' => ?_, fun post h n f hn hf' => ?_⟩
      · obtain ⟨f, rfl⟩ : ∃ g, f = g + 1 := ⟨f - 1, by omega⟩
        rw [wX_raise_7]
        refine br_f (nI_nle (by omega) (by omega)) (am_X_pop hF (by omega) (by omega) hf ?_)
        simp (disch := omega) only [hk, pk_m1, nI_clamp, pk_us, am_uu, nI_1, nI_pred, am_ip, nI_add, am_m8, am_m4, vp_in_nI, true_and, and_true, forall_eq, true_implies, false_implies, not_true_eq_false, not_false_eq_true, am_ne_1_0, Int32.reduceLT, Int32.reduceLE]
        exact hX' post h f (by omega)
      · obtain ⟨f, rfl⟩ : ∃ g, f = g + 1 := ⟨f - 1, by omega⟩
        rw [wY_raise_2]
        refine br_f (nI_nlt (a := 8) (by omega) (by omega)) ?_
        refine ⟨vp_in_nI (by omega) (by omega), br_f ?_ (am_Y_pop hF (by omega) (by omega) hf ?_)⟩
        · simp (disch := omega) only [hf, nI_clamp, pk_us, am_uu, nI_1, nI_pred, am_ip, nI_add, am_m8, am_m4, vp_in_nI, true_and, and_true, forall_eq, true_implies, false_implies, not_true_eq_false, not_false_eq_true, am_ne_1_0, Int32.reduceLT, Int32.reduceLE]
          exact nI_ne0 (by omega) (by omega)
        · simp (disch := omega) only [hk, nI_clamp, pk_us, am_uu, nI_1, nI_pred, am_ip, nI_add, am_m8, am_m4, vp_in_nI, true_and, and_true, forall_eq, true_implies, false_implies, not_true_eq_false, not_false_eq_true, am_ne_1_0, Int32.reduceLT, Int32.reduceLE]
          exact hY' post h (n + 1) f (by omega) (by omega)
theorem am_raise {e : Int32} (I : am_I M st mk ex sd fd pn fk fa) (P : am_P pn pX pY) (ht : t < M) : am_Out C Z N M co ca (fun post => wpX_raise post (nI C, nI Z, nI N, nI M, co, ca, st, pc, mk, ex, sd, fd, pn, sk, fk, fa, fs, pX, ho, aq, rl) (nI t) e) (fun post => wpY_raise post (nI C, nI Z, nI N, nI M, co, ca, st, pc, mk, ex, sd, fd, pn, sk, fk, fa, fs, pY, ho, aq, rl) (nI t) e) := by
  obtain ⟨d, hd, hf⟩ := I.2.2.1 t
  have hM := I.1
  obtain ⟨st', pc', mk', ex', sd', fd', pn', sk', fk', fa', fs', pX', pY', ho', aq', rl', hI', hP', hX', hY'⟩ := am_ra (e := e) (pc := pc) (sk := sk) (fs := fs) (aq := aq) ht P d mk fd ho rl hd hf I
  refine ⟨st', pc', mk', ex', sd', fd', pn', sk', fk', fa', fs', pX', pY', ho', aq', rl', hI', hP', fun post h => ?_, fun post h => ?_⟩
  · simp (disch := omega) only [wpX_raise, hf, nI_clamp, pk_us, am_uu, nI_1, nI_pred, am_ip, nI_add, am_m8, am_m4, vp_in_nI, true_and, and_true, forall_eq, true_implies, false_implies, not_true_eq_false, not_false_eq_true, am_ne_1_0, Int32.reduceLT, Int32.reduceLE]
    exact ⟨d + 1, hX' post h (d + 1) (by omega)⟩
  · simp (disch := omega) only [wpY_raise, nI_clamp, pk_us, am_uu, nI_1, nI_pred, am_ip, nI_add, am_m8, am_m4, vp_in_nI, true_and, and_true, forall_eq, true_implies, false_implies, not_true_eq_false, not_false_eq_true, am_ne_1_0, Int32.reduceLT, Int32.reduceLE]
    exact ⟨9, hY' post h 0 9 (by omega) (by omega)⟩
end
