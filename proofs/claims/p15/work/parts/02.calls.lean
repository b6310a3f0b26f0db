theorem am_ne_1_0 : ¬ (1 : Int32) = 0 := by decide
theorem am_ne_2_0 : ¬ (2 : Int32) = 0 := by decide
theorem am_ne_2_1 : ¬ (2 : Int32) = 1 := by decide
theorem am_ne_3_0 : ¬ (3 : Int32) = 0 := by decide
theorem am_ne_3_1 : ¬ (3 : Int32) = 1 := by decide
theorem am_ne_3_2 : ¬ (3 : Int32) = 2 := by decide
theorem am_ne_4_0 : ¬ (4 : Int32) = 0 := by decide
theorem am_ne_4_1 : ¬ (4 : Int32) = 1 := by decide
theorem am_ne_4_2 : ¬ (4 : Int32) = 2 := by decide
theorem am_ne_4_3 : ¬ (4 : Int32) = 3 := by decide
theorem am_ne_5_0 : ¬ (5 : Int32) = 0 := by decide
theorem am_ne_5_1 : ¬ (5 : Int32) = 1 := by decide
theorem am_ne_5_2 : ¬ (5 : Int32) = 2 := by decide
theorem am_ne_5_3 : ¬ (5 : Int32) = 3 := by decide
theorem am_ne_5_4 : ¬ (5 : Int32) = 4 := by decide
theorem am_ne_6_0 : ¬ (6 : Int32) = 0 := by decide
theorem am_ne_6_1 : ¬ (6 : Int32) = 1 := by decide
theorem am_ne_6_2 : ¬ (6 : Int32) = 2 := by decide
theorem am_ne_6_3 : ¬ (6 : Int32) = 3 := by decide
theorem am_ne_6_4 : ¬ (6 : Int32) = 4 := by decide
theorem am_ne_6_5 : ¬ (6 : Int32) = 5 := by decide
theorem am_ne_7_0 : ¬ (7 : Int32) = 0 := by decide
theorem am_ne_7_1 : ¬ (7 : Int32) = 1 := by decide
theorem am_ne_7_2 : ¬ (7 : Int32) = 2 := by decide
theorem am_ne_7_3 : ¬ (7 : Int32) = 3 := by decide
theorem am_ne_7_4 : ¬ (7 : Int32) = 4 := by decide
theorem am_ne_7_5 : ¬ (7 : Int32) = 5 := by decide
theorem am_ne_7_6 : ¬ (7 : Int32) = 6 := by decide
theorem am_ne_8_0 : ¬ (8 : Int32) = 0 := by decide
theorem am_ne_8_1 : ¬ (8 : Int32) = 1 := by decide
theorem am_ne_8_2 : ¬ (8 : Int32) = 2 := by decide
theorem am_ne_8_3 : ¬ (8 : Int32) = 3 := by decide
theorem am_ne_8_4 : ¬ (8 : Int32) = 4 := by decide
theorem am_ne_8_5 : ¬ (8 : Int32) = 5 := by decide
theorem am_ne_8_6 : ¬ (8 : Int32) = 6 := by decide
theorem am_ne_8_7 : ¬ (8 : Int32) = 7 := by decide
theorem am_ne_9_0 : ¬ (9 : Int32) = 0 := by decide
theorem am_ne_9_1 : ¬ (9 : Int32) = 1 := by decide
theorem am_ne_9_2 : ¬ (9 : Int32) = 2 := by decide
theorem am_ne_9_3 : ¬ (9 : Int32) = 3 := by decide
theorem am_ne_9_4 : ¬ (9 : Int32) = 4 := by decide
theorem am_ne_9_5 : ¬ (9 : Int32) = 5 := by decide
theorem am_ne_9_6 : ¬ (9 : Int32) = 6 := by decide
theorem am_ne_9_7 : ¬ (9 : Int32) = 7 := by decide
theorem am_ne_9_8 : ¬ (9 : Int32) = 8 := by decide
theorem am_ne_10_0 : ¬ (10 : Int32) = 0 := by decide
theorem am_ne_10_1 : ¬ (10 : Int32) = 1 := by decide
theorem am_ne_10_2 : ¬ (10 : Int32) = 2 := by decide
theorem am_ne_10_3 : ¬ (10 : Int32) = 3 := by decide
theorem am_ne_10_4 : ¬ (10 : Int32) = 4 := by decide
theorem am_ne_10_5 : ¬ (10 : Int32) = 5 := by decide
theorem am_ne_10_6 : ¬ (10 : Int32) = 6 := by decide
theorem am_ne_10_7 : ¬ (10 : Int32) = 7 := by decide
theorem am_ne_10_8 : ¬ (10 : Int32) = 8 := by decide
theorem am_ne_10_9 : ¬ (10 : Int32) = 9 := by decide
theorem am_ne_11_0 : ¬ (11 : Int32) = 0 := by decide
theorem am_ne_11_1 : ¬ (11 : Int32) = 1 := by decide
theorem am_ne_11_2 : ¬ (11 : Int32) = 2 := by decide
theorem am_ne_11_3 : ¬ (11 : Int32) = 3 := by decide
theorem am_ne_11_4 : ¬ (11 : Int32) = 4 := by decide
theorem am_ne_11_5 : ¬ (11 : Int32) = 5 := by decide
theorem am_ne_11_6 : ¬ (11 : Int32) = 6 := by decide
theorem am_ne_11_7 : ¬ (11 : Int32) = 7 := by decide
theorem am_ne_11_8 : ¬ (11 : Int32) = 8 := by decide
theorem am_ne_11_9 : ¬ (11 : Int32) = 9 := by decide
theorem am_ne_11_10 : ¬ (11 : Int32) = 10 := by decide
theorem am_ne_12_0 : ¬ (12 : Int32) = 0 := by decide
theorem am_ne_12_1 : ¬ (12 : Int32) = 1 := by decide
theorem am_ne_12_2 : ¬ (12 : Int32) = 2 := by decide
theorem am_ne_12_3 : ¬ (12 : Int32) = 3 := by decide
theorem am_ne_12_4 : ¬ (12 : Int32) = 4 := by decide
theorem am_ne_12_5 : ¬ (12 : Int32) = 5 := by decide
theorem am_ne_12_6 : ¬ (12 : Int32) = 6 := by decide
theorem am_ne_12_7 : ¬ (12 : Int32) = 7 := by decide
theorem am_ne_12_8 : ¬ (12 : Int32) = 8 := by decide
theorem am_ne_12_9 : ¬ (12 : Int32) = 9 := by decide
theorem am_ne_12_10 : ¬ (12 : Int32) = 10 := by decide
theorem am_ne_12_11 : ¬ (12 : Int32) = 11 := by decide
theorem am_ne_13_0 : ¬ (13 : Int32) = 0 := by decide
theorem am_ne_13_1 : ¬ (13 : Int32) = 1 := by decide
theorem am_ne_13_2 : ¬ (13 : Int32) = 2 := by decide
theorem am_ne_13_3 : ¬ (13 : Int32) = 3 := by decide
theorem am_ne_13_4 : ¬ (13 : Int32) = 4 := by decide
theorem am_ne_13_5 : ¬ (13 : Int32) = 5 := by decide
theorem am_ne_13_6 : ¬ (13 : Int32) = 6 := by decide
theorem am_ne_13_7 : ¬ (13 : Int32) = 7 := by decide
theorem am_ne_13_8 : ¬ (13 : Int32) = 8 := by decide
theorem am_ne_13_9 : ¬ (13 : Int32) = 9 := by decide
theorem am_ne_13_10 : ¬ (13 : Int32) = 10 := by decide
theorem am_ne_13_11 : ¬ (13 : Int32) = 11 := by decide
theorem am_ne_13_12 : ¬ (13 : Int32) = 12 := by decide
theorem am_ne_14_0 : ¬ (14 : Int32) = 0 := by decide
theorem am_ne_14_1 : ¬ (14 : Int32) = 1 := by decide
theorem am_ne_14_2 : ¬ (14 : Int32) = 2 := by decide
theorem am_ne_14_3 : ¬ (14 : Int32) = 3 := by decide
theorem am_ne_14_4 : ¬ (14 : Int32) = 4 := by decide
theorem am_ne_14_5 : ¬ (14 : Int32) = 5 := by decide
theorem am_ne_14_6 : ¬ (14 : Int32) = 6 := by decide
theorem am_ne_14_7 : ¬ (14 : Int32) = 7 := by decide
theorem am_ne_14_8 : ¬ (14 : Int32) = 8 := by decide
theorem am_ne_14_9 : ¬ (14 : Int32) = 9 := by decide
theorem am_ne_14_10 : ¬ (14 : Int32) = 10 := by decide
theorem am_ne_14_11 : ¬ (14 : Int32) = 11 := by decide
theorem am_ne_14_12 : ¬ (14 : Int32) = 12 := by decide
theorem am_ne_14_13 : ¬ (14 : Int32) = 13 := by decide
theorem am_ne_15_0 : ¬ (15 : Int32) = 0 := by decide
theorem am_ne_15_1 : ¬ (15 : Int32) = 1 := by decide
theorem am_ne_15_2 : ¬ (15 : Int32) = 2 := by decide
theorem am_ne_15_3 : ¬ (15 : Int32) = 3 := by decide
theorem am_ne_15_4 : ¬ (15 : Int32) = 4 := by decide
theorem am_ne_15_5 : ¬ (15 : Int32) = 5 := by decide
theorem am_ne_15_6 : ¬ (15 : Int32) = 6 := by decide
theorem am_ne_15_7 : ¬ (15 : Int32) = 7 := by decide
theorem am_ne_15_8 : ¬ (15 : Int32) = 8 := by decide
theorem am_ne_15_9 : ¬ (15 : Int32) = 9 := by decide
theorem am_ne_15_10 : ¬ (15 : Int32) = 10 := by decide
theorem am_ne_15_11 : ¬ (15 : Int32) = 11 := by decide
theorem am_ne_15_12 : ¬ (15 : Int32) = 12 := by decide
theorem am_ne_15_13 : ¬ (15 : Int32) = 13 := by decide
theorem am_ne_15_14 : ¬ (15 : Int32) = 14 := by decide
theorem am_ip (a d : Nat) : nI (a + (d + 1)) - 1 = nI (a + d) := nI_pred (a + d)
def am_Out (b C Z N M : Nat) (co ca : Nat → Int32) (WX : (St2 → Prop) → Prop) : Prop := ∃ st pc mk ex sd fd pn sk fk fa fs pd ho aq rl : Nat → Int32, am_I M st mk ex sd fd pn fk fa ∧ am_K b M st fd fk fa ho aq rl ∧ (∀ post : St2 → Prop, post (nI C, nI Z, nI N, nI M, co, ca, st, pc, mk, ex, sd, fd, pn, sk, fk, fa, fs, pd, ho, aq, rl) → WX post)
section
variable {b C Z N M t p d : Nat} {co ca st pc mk ex sd fd pn sk fk fa fs pd ho aq rl : Nat → Int32}
theorem am_X_pop (hF : am_F fk fa) (ht : t < 4) (hd : d < 8) (hf : fd t = nI (d + 1)) {post : Int32 → St2 → Prop} (h : post (nI (t * 8 + d)) (nI C, nI Z, nI N, nI M, co, ca, st, pc, (upd mk t (fs (t * 8 + d))), ex, sd, (upd fd t (nI d)), pn, sk, fk, fa, fs, pd, (am_ho fk fa ho (t * 8 + d)), aq, (am_rl fk fa rl (t * 8 + d)))) : wpX_popFrame post (nI C, nI Z, nI N, nI M, co, ca, st, pc, mk, ex, sd, fd, pn, sk, fk, fa, fs, pd, ho, aq, rl) (nI t) := by
  by_cases hk : fk (t * 8 + d) = 3
  · obtain ⟨r, hr, hfa⟩ := hF _ hk
    simp (disch := omega) only [am_ho, am_rl, hk, hfa, if_true, nI_clamp, pk_us, am_uu, nI_1, nI_pred, am_ip, nI_add, am_m8, am_m4, vp_in_nI, true_and, and_true, forall_eq, true_implies, false_implies, not_true_eq_false, not_false_eq_true, am_ne_1_0, Int32.reduceLT, Int32.reduceLE] at h
    simp (disch := omega) only [wpX_popFrame, hf, hk, hfa, nI_clamp, pk_us, am_uu, nI_1, nI_pred, am_ip, nI_add, am_m8, am_m4, vp_in_nI, true_and, and_true, forall_eq, true_implies, false_implies, not_true_eq_false, not_false_eq_true, am_ne_1_0, Int32.reduceLT, Int32.reduceLE]
    exact h
  · simp only [am_ho, am_rl, hk, if_false] at h
    simp (disch := omega) only [wpX_popFrame, hf, hk, nI_clamp, pk_us, am_uu, nI_1, nI_pred, am_ip, nI_add, am_m8, am_m4, vp_in_nI, true_and, and_true, forall_eq, true_implies, false_implies, not_true_eq_false, not_false_eq_true, am_ne_1_0, Int32.reduceLT, Int32.reduceLE]
    exact h
theorem am_X_fin {x e : Int32} (ht : t < 4) {post : St2 → Prop} (h : post (nI C, nI Z, nI N, nI M, co, ca, (upd st t x), pc, mk, (upd ex t e), (upd sd t 0), fd, (upd pn t 0), sk, fk, fa, fs, pd, ho, aq, rl)) : wpX_finish post (nI C, nI Z, nI N, nI M, co, ca, st, pc, mk, ex, sd, fd, pn, sk, fk, fa, fs, pd, ho, aq, rl) (nI t) x e := by
  simp (disch := omega) only [wpX_finish, nI_clamp, pk_us, am_uu, nI_1, nI_pred, am_ip, nI_add, am_m8, am_m4, vp_in_nI, true_and, and_true, forall_eq, true_implies, false_implies, not_true_eq_false, not_false_eq_true, am_ne_1_0, Int32.reduceLT, Int32.reduceLE]
  exact h
theorem am_ra {e : Int32} (ht : t < M) : ∀ (d : Nat) (mk fd ho rl : Nat → Int32), d ≤ 8 → fd t = nI d → am_I M st mk ex sd fd pn fk fa → am_K b M st fd fk fa ho aq rl → am_Out b C Z N M co ca (fun post => ∀ f, d < f → wX_raise_7 post (nI t) e f (nI d) (nI C) (nI Z) (nI N) (nI M) co ca st pc mk ex sd fd pn sk fk fa fs pd ho aq rl) := by
  intro d
  induction d with
  | zero =>
    intro mk fd ho rl hd hf I K
    have hM := I.1
    refine ⟨(upd st t 3), pc, mk, (upd ex t e), (upd sd t 0), fd, (upd pn t 0), sk, fk, fa, fs, pd, ho, aq, rl, ?_, am_K_st K hM hf, fun post h f hf' => ?_⟩
    · exact am_I_pn (d := 0) (am_I_sd (d := 0) (am_I_se I ht (by decide)) ht (by omega)) ht (by omega)
    · obtain ⟨f, rfl⟩ : ∃ g, f = g + 1 := ⟨f - 1, by omega⟩
      rw [wX_raise_7]
      refine br_t (by decide) (am_X_fin (by omega) ?_)
      exact h
  | succ d ih =>
    intro mk fd ho rl hd hf I K
    have hM := I.1
    have hF := I.2.2.2.2.1
    have I' := am_I_fd (d := d) (am_I_mk (x := fs (t * 8 + d)) I ht) ht (by omega)
    have K' := am_K_pop K hF hM (by omega) (by omega) hf
    by_cases hk : fk (t * 8 + d) = 1
    · refine ⟨st, (upd pc t (fa (t * 8 + d))), (upd mk t (fs (t * 8 + d))), ex, (upd sd t 1), (upd fd t (nI d)), pn, (upd sk (t * 8) e), fk, fa, fs, pd, (am_ho fk fa ho (t * 8 + d)), aq, (am_rl fk fa rl (t * 8 + d)), am_I_sd (d := 1) I' ht (by omega), K', fun post h f hf' => ?_⟩
      obtain ⟨f, rfl⟩ : ∃ g, f = g + 1 := ⟨f - 1, by omega⟩
      rw [wX_raise_7]
      refine br_f (nI_nle (by omega) (by omega)) (am_X_pop hF (by omega) (by omega) hf ?_)
      simp (disch := omega) only [hk, nI_clamp, pk_us, am_uu, nI_1, nI_pred, am_ip, nI_add, am_m8, am_m4, vp_in_nI, true_and, and_true, forall_eq, true_implies, false_implies, not_true_eq_false, not_false_eq_true, am_ne_1_0, Int32.reduceLT, Int32.reduceLE]
      exact h
    · obtain ⟨st', pc', mk', ex', sd', fd', pn', sk', fk', fa', fs', pd', ho', aq', rl', hI', hK', hX'⟩ := ih _ _ _ _ (by omega) pk_us I' K'
      refine ⟨st', pc', mk', ex', sd', fd', pn', sk', fk', fa', fs', pd', ho', aq', rl', hI', hK', fun post h f hf' => ?_⟩
      obtain ⟨f, rfl⟩ : ∃ g, f = g + 1 := ⟨f - 1, by omega⟩
      rw [wX_raise_7]
      refine br_f (nI_nle (by omega) (by omega)) (am_X_pop hF (by omega) (by omega) hf ?_)
      simp (disch := omega) only [hk, pk_m1, nI_clamp, pk_us, am_uu, nI_1, nI_pred, am_ip, nI_add, am_m8, am_m4, vp_in_nI, true_and, and_true, forall_eq, true_implies, false_implies, not_true_eq_false, not_false_eq_true, am_ne_1_0, Int32.reduceLT, Int32.reduceLE]
      exact hX' post h f (by omega)
theorem am_raise {e : Int32} (I : am_I M st mk ex sd fd pn fk fa) (K : am_K b M st fd fk fa ho aq rl) (ht : t < M) : am_Out b C Z N M co ca (fun post => wpX_raise post (nI C, nI Z, nI N, nI M, co, ca, st, pc, mk, ex, sd, fd, pn, sk, fk, fa, fs, pd, ho, aq, rl) (nI t) e) := by
  obtain ⟨d, hd, hf⟩ := I.2.2.1 t
  have hM := I.1
  obtain ⟨st', pc', mk', ex', sd', fd', pn', sk', fk', fa', fs', pd', ho', aq', rl', hI', hK', hX'⟩ := am_ra (e := e) (pc := pc) (sk := sk) (fs := fs) (pd := pd) ht d mk fd ho rl hd hf I K
  refine ⟨st', pc', mk', ex', sd', fd', pn', sk', fk', fa', fs', pd', ho', aq', rl', hI', hK', fun post h => ?_⟩
  simp (disch := omega) only [wpX_raise, hf, nI_clamp, pk_us, am_uu, nI_1, nI_pred, am_ip, nI_add, am_m8, am_m4, vp_in_nI, true_and, and_true, forall_eq, true_implies, false_implies, not_true_eq_false, not_false_eq_true, am_ne_1_0, Int32.reduceLT, Int32.reduceLE]
  exact ⟨d + 1, hX' post h (d + 1) (by omega)⟩
theorem am_ha (ht : t < M) (hx : ex t = 0) : ∀ (d : Nat) (mk fd ho rl : Nat → Int32), d ≤ 8 → fd t = nI d → am_I M st mk ex sd fd pn fk fa → am_K b M st fd fk fa ho aq rl → am_Out b C Z N M co ca (fun post => ∀ f, d < f → wX_halt_7 post (nI t) f (nI d) (nI C) (nI Z) (nI N) (nI M) co ca st pc mk ex sd fd pn sk fk fa fs pd ho aq rl) := by
  intro d
  induction d with
  | zero =>
    intro mk fd ho rl hd hf I K
    have hM := I.1
    refine ⟨(upd st t 2), pc, mk, (upd ex t 0), (upd sd t 0), fd, (upd pn t 0), sk, fk, fa, fs, pd, ho, aq, rl, ?_, am_K_st K hM hf, fun post h f hf' => ?_⟩
    · exact am_I_pn (d := 0) (am_I_sd (d := 0) (am_I_se I ht (by decide)) ht (by omega)) ht (by omega)
    · obtain ⟨f, rfl⟩ : ∃ g, f = g + 1 := ⟨f - 1, by omega⟩
      rw [wX_halt_7]
      refine br_t (by decide) (am_X_fin (by omega) ?_)
      exact h
  | succ d ih =>
    intro mk fd ho rl hd hf I K
    have hM := I.1
    have hF := I.2.2.2.2.1
    have I' := am_I_fd (d := d) (am_I_mk (x := fs (t * 8 + d)) I ht) ht (by omega)
    have K' := am_K_pop K hF hM (by omega) (by omega) hf
    obtain ⟨st', pc', mk', ex', sd', fd', pn', sk', fk', fa', fs', pd', ho', aq', rl', hI', hK', hX'⟩ := ih _ _ _ _ (by omega) pk_us I' K'
    refine ⟨st', pc', mk', ex', sd', fd', pn', sk', fk', fa', fs', pd', ho', aq', rl', hI', hK', fun post h f hf' => ?_⟩
    obtain ⟨f, rfl⟩ : ∃ g, f = g + 1 := ⟨f - 1, by omega⟩
    rw [wX_halt_7]
    refine br_f (nI_nle (by omega) (by omega)) (am_X_pop hF (by omega) (by omega) hf ?_)
    simp (disch := omega) only [pk_m1, nI_clamp, pk_us, am_uu, nI_1, nI_pred, am_ip, nI_add, am_m8, am_m4, vp_in_nI, true_and, and_true, forall_eq, true_implies, false_implies, not_true_eq_false, not_false_eq_true, am_ne_1_0, Int32.reduceLT, Int32.reduceLE]
    exact hX' post h f (by omega)
end
