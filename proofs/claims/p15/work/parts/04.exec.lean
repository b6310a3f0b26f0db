theorem am_ne_x : ¬ (10 : Int32) = 14 := by decide
section
variable {b C Z N M t p d : Nat} {co ca st pc mk ex sd fd pn sk fk fa fs pd ho aq rl : Nat → Int32}
theorem am_exec (I : am_I M st mk ex sd fd pn fk fa) (K : am_K b M st fd fk fa ho aq rl) (ht : t < M) (hN : N ≤ 64) (hp : p < N) (hpc : pc t = nI p) (ha : st t = 1) (hB : ∀ r, r < 8 → co p = 14 → ca p = nI r → ho r = -1) : am_Out (b + 1) C Z N M co ca (fun post => wpX_execute post (nI C, nI Z, nI N, nI M, co, ca, st, pc, mk, ex, sd, fd, pn, sk, fk, fa, fs, pd, ho, aq, rl) (nI t)) := by
  have hM := I.1
  obtain ⟨a, ha8, hs⟩ := I.2.1 t
  obtain ⟨g, hb8, hf⟩ := I.2.2.1 t
  by_cases h1 : co p = 1
  · by_cases q : a = 8
    · subst q
      exact am_op_push_full I K ht hN hp hpc h1 hs
    · exact am_op_push I K ht hN hp hpc h1 hs (by omega)
  by_cases h2 : co p = 2
  · cases a with
    | zero => exact am_op_pop_0 I K ht hN hp hpc h2 hs
    | succ a => exact am_op_pop I K ht hN hp hpc h2 hs (by omega)
  by_cases h3 : co p = 3
  · cases a with
    | zero => exact am_op_dup_0 I K ht hN hp hpc h3 hs
    | succ a =>
      by_cases q : a = 7
      · exact am_op_dup_full I K ht hN hp hpc h3 hs q
      · exact am_op_dup I K ht hN hp hpc h3 hs (by omega)
  by_cases h4 : co p = 4
  · by_cases q : a < 2
    · exact am_op_add_0 I K ht hN hp hpc h4 hs q
    · obtain ⟨a, rfl⟩ : ∃ v, a = v + 1 + 1 := ⟨a - 2, by omega⟩
      exact am_op_add I K ht hN hp hpc h4 hs (by omega)
  by_cases h5 : co p = 5
  · by_cases q : a < 2
    · exact am_op_sub_0 I K ht hN hp hpc h5 hs q
    · obtain ⟨a, rfl⟩ : ∃ v, a = v + 1 + 1 := ⟨a - 2, by omega⟩
      exact am_op_sub I K ht hN hp hpc h5 hs (by omega)
  by_cases h6 : co p = 6
  · exact am_op_jmp I K ht hN hp hpc h6
  by_cases h7 : co p = 7
  · cases a with
    | zero => exact am_op_jz_0 I K ht hN hp hpc h7 hs
    | succ a =>
      by_cases q : sk (t * 8 + a) = 0
      · exact am_op_jz_y I K ht hN hp hpc h7 hs (by omega) q
      · exact am_op_jz_n I K ht hN hp hpc h7 hs (by omega) q
  by_cases h8 : co p = 8
  · by_cases q : a = 8
    · subst q
      exact am_op_myid_full I K ht hN hp hpc h8 hs
    · exact am_op_myid I K ht hN hp hpc h8 hs (by omega)
  by_cases h9 : co p = 9
  · cases a with
    | zero => exact am_op_thr_0 I K ht hN hp hpc h9 hs
    | succ a => exact am_op_thr I K ht hN hp hpc h9 hs (by omega)
  by_cases h10 : co p = 10
  · cases a with
    | zero => exact am_op_tto_0 I K ht hN hp hpc h10 hs
    | succ a =>
      rcases pk_ix (ca p) (n := M) (by omega) with q | q | ⟨u, hu, q⟩
      · exact am_op_tto_neg I K ht hN hp hpc h10 hs (by omega) q
      · exact am_op_tto_big I K ht hN hp hpc h10 hs (by omega) (am_nb (by omega) q) q
      · by_cases w : u = t
        · subst w
          exact am_op_tto_me I K ht hN hp hpc h10 hs (by omega) q
        · by_cases x : st u = 1
          · obtain ⟨c, hc, hx⟩ := I.2.2.2.1 u
            by_cases z : c = 4
            · subst z
              exact am_op_tto_full (c := 0) I K ht hN hp hpc h10 hs (by omega) hu w q x hx
            · exact am_op_tto I K ht hN hp hpc h10 hs (by omega) hu w q x hx (by omega)
          · exact am_op_tto_dead (c := 0) I K ht hN hp hpc h10 hs (by omega) hu w q x
  by_cases h11 : co p = 11
  · by_cases q : g = 8
    · subst q
      exact am_op_catch_full I K ht hN hp hpc h11 hf
    · exact am_op_catch I K ht hN hp hpc h11 hf (by omega)
  by_cases h12 : co p = 12
  · by_cases z : ca p < 0
    · by_cases q : g = 8
      · subst q
        exact am_op_mask_neg_full I K ht hN hp hpc h12 z hf
      · exact am_op_mask_neg I K ht hN hp hpc h12 z hf (by omega)
    · by_cases y : ca p ≤ 2
      · by_cases q : g = 8
        · subst q
          exact am_op_mask_mid_full I K ht hN hp hpc h12 z y hf
        · exact am_op_mask_mid I K ht hN hp hpc h12 z y hf (by omega)
      · by_cases q : g = 8
        · subst q
          exact am_op_mask_big_full I K ht hN hp hpc h12 z (Int32.not_le.mp y) hf
        · exact am_op_mask_big I K ht hN hp hpc h12 z (Int32.not_le.mp y) hf (by omega)
  by_cases h13 : co p = 13
  · cases g with
    | zero => exact am_op_end_0 I K ht hN hp hpc h13 hf
    | succ g => exact am_op_end I K ht hN hp hpc h13 hf (by omega)
  by_cases h14 : co p = 14
  · rcases pk_ix (ca p) (n := 8) (by omega) with q | q | ⟨r, hr, q⟩
    · exact am_op_br_neg I K ht hN hp hpc h14 q
    · exact am_op_br_big I K ht hN hp hpc h14 (am_nb (M := 8) (by omega) q) q
    · by_cases w : g = 8
      · subst w
        exact am_op_br_full I K ht hN hp hpc h14 hr q hf
      · exact am_op_br I K ht hN hp hpc h14 hr q hf (by omega) (hB r hr h14 q) ha
  by_cases h15 : co p = 15
  · exact am_op_halt I K ht hN hp hpc ha h15
  by_cases hlo : co p < 1
  · exact am_op_lo I K ht hN hp hpc hlo
  by_cases hhi : 15 < co p
  · exact am_op_hi I K ht hN hp hpc hlo hhi
  refine ⟨st, pc, mk, ex, sd, fd, pn, sk, fk, fa, fs, pd, ho, aq, rl, I, am_K_s K hM, fun post _ => ?_⟩
  simp (disch := omega) only [wpX_execute, hpc, hlo, hhi, h1, h2, h3, h4, h5, h6, h7, h8, h9, h10, h11, h12, h13, h14, h15, nI_clamp, pk_us, am_uu, nI_1, nI_pred, am_ip, nI_add, am_m8, am_m4, vp_in_nI, true_and, and_true, forall_eq, true_implies, false_implies, not_true_eq_false, not_false_eq_true, am_ne_1_0, Int32.reduceLT, Int32.reduceLE]
theorem am_bl (I : am_I M st mk ex sd fd pn fk fa) (ht : t < M) (hN : N ≤ 64) : ∃ y : Int32, ∀ post : Int32 → Prop, post y → wpX_isBlocked post (nI C, nI Z, nI N, nI M, co, ca, st, pc, mk, ex, sd, fd, pn, sk, fk, fa, fs, pd, ho, aq, rl) (nI t) := by
  have hM := I.1
  obtain ⟨a, ha8, hs⟩ := I.2.1 t
  by_cases ha : st t = 1
  case neg =>
    refine ⟨0, fun post h => ?_⟩
    simp (disch := omega) only [wpX_isBlocked, wpX_isCodeAddress, wpX_isAlive, wpX_isThread, wpX_isResource, ha, am_ne_14_10, am_ne_x, nI_clamp, pk_us, am_uu, nI_1, nI_pred, am_ip, nI_add, am_m8, am_m4, vp_in_nI, true_and, and_true, forall_eq, true_implies, false_implies, not_true_eq_false, not_false_eq_true, am_ne_1_0, Int32.reduceLT, Int32.reduceLE]
    exact h
  rcases pk_ix (pc t) (n := N) (by omega) with hp | hp | ⟨p, hp, hpc⟩
  · refine ⟨0, fun post h => ?_⟩
    simp (disch := omega) only [wpX_isBlocked, wpX_isCodeAddress, wpX_isAlive, wpX_isThread, wpX_isResource, ha, hp, am_ne_14_10, am_ne_x, nI_clamp, pk_us, am_uu, nI_1, nI_pred, am_ip, nI_add, am_m8, am_m4, vp_in_nI, true_and, and_true, forall_eq, true_implies, false_implies, not_true_eq_false, not_false_eq_true, am_ne_1_0, Int32.reduceLT, Int32.reduceLE]
    exact h
  · have hz : ¬ pc t < 0 := am_nb (by omega) hp
    have hy : ¬ pc t < nI N := Int32.not_lt.mpr hp
    refine ⟨0, fun post h => ?_⟩
    simp (disch := omega) only [wpX_isBlocked, wpX_isCodeAddress, wpX_isAlive, wpX_isThread, wpX_isResource, ha, hz, hy, hp, am_ne_14_10, am_ne_x, nI_clamp, pk_us, am_uu, nI_1, nI_pred, am_ip, nI_add, am_m8, am_m4, vp_in_nI, true_and, and_true, forall_eq, true_implies, false_implies, not_true_eq_false, not_false_eq_true, am_ne_1_0, Int32.reduceLT, Int32.reduceLE]
    exact h
  have e1 : ¬ nI p < 0 := nI_pos (by omega)
  have e2 : ¬ nI N ≤ nI p := nI_ge hp (by omega)
  have e3 : nI p < nI N := nI_lt hp (by omega)
  by_cases h14 : co p = 14
  · rcases pk_ix (ca p) (n := 8) (by omega) with q | q | ⟨r, hr, q⟩
    · refine ⟨0, fun post h => ?_⟩
      simp (disch := omega) only [wpX_isBlocked, wpX_isCodeAddress, wpX_isAlive, wpX_isThread, wpX_isResource, ha, hpc, e1, e2, e3, h14, q, am_ne_14_10, am_ne_x, nI_clamp, pk_us, am_uu, nI_1, nI_pred, am_ip, nI_add, am_m8, am_m4, vp_in_nI, true_and, and_true, forall_eq, true_implies, false_implies, not_true_eq_false, not_false_eq_true, am_ne_1_0, Int32.reduceLT, Int32.reduceLE]
      exact h
    · have hz : ¬ ca p < 0 := am_nb (M := 8) (by omega) q
      have q8 : 8 ≤ ca p := q
      refine ⟨0, fun post h => ?_⟩
      simp (disch := omega) only [wpX_isBlocked, wpX_isCodeAddress, wpX_isAlive, wpX_isThread, wpX_isResource, ha, hpc, e1, e2, e3, h14, q8, hz, am_ne_14_10, am_ne_x, nI_clamp, pk_us, am_uu, nI_1, nI_pred, am_ip, nI_add, am_m8, am_m4, vp_in_nI, true_and, and_true, forall_eq, true_implies, false_implies, not_true_eq_false, not_false_eq_true, am_ne_1_0, Int32.reduceLT, Int32.reduceLE]
      exact h
    · have g1 : ¬ nI r < 0 := nI_pos (by omega)
      have g2 : ¬ 8 ≤ nI r := nI_ge (b := 8) hr (by omega)
      by_cases w : ho r = -1
      · refine ⟨0, fun post h => ?_⟩
        simp (disch := omega) only [wpX_isBlocked, wpX_isCodeAddress, wpX_isAlive, wpX_isThread, wpX_isResource, ha, hpc, e1, e2, e3, h14, q, g1, g2, w, am_ne_14_10, am_ne_x, nI_clamp, pk_us, am_uu, nI_1, nI_pred, am_ip, nI_add, am_m8, am_m4, vp_in_nI, true_and, and_true, forall_eq, true_implies, false_implies, not_true_eq_false, not_false_eq_true, am_ne_1_0, Int32.reduceLT, Int32.reduceLE]
        exact h
      · refine ⟨1, fun post h => ?_⟩
        simp (disch := omega) only [wpX_isBlocked, wpX_isCodeAddress, wpX_isAlive, wpX_isThread, wpX_isResource, ha, hpc, e1, e2, e3, h14, q, g1, g2, w, am_ne_14_10, am_ne_x, nI_clamp, pk_us, am_uu, nI_1, nI_pred, am_ip, nI_add, am_m8, am_m4, vp_in_nI, true_and, and_true, forall_eq, true_implies, false_implies, not_true_eq_false, not_false_eq_true, am_ne_1_0, Int32.reduceLT, Int32.reduceLE]
        exact h
  by_cases h10 : co p = 10
  · by_cases x : a < 1
    · have g0 : nI a < 1 := nI_lt (b := 1) x (by omega)
      refine ⟨0, fun post h => ?_⟩
      simp (disch := omega) only [wpX_isBlocked, wpX_isCodeAddress, wpX_isAlive, wpX_isThread, wpX_isResource, ha, hpc, e1, e2, e3, h10, hs, g0, am_ne_14_10, am_ne_x, nI_clamp, pk_us, am_uu, nI_1, nI_pred, am_ip, nI_add, am_m8, am_m4, vp_in_nI, true_and, and_true, forall_eq, true_implies, false_implies, not_true_eq_false, not_false_eq_true, am_ne_1_0, Int32.reduceLT, Int32.reduceLE]
      exact h
    have g0 : ¬ nI a < 1 := nI_nlt (b := 1) (by omega) (by omega)
    rcases pk_ix (ca p) (n := M) (by omega) with q | q | ⟨u, hu, q⟩
    · have qn : ¬ ca p = nI t := fun z => nI_pos (n := t) (by omega) (z ▸ q)
      refine ⟨0, fun post h => ?_⟩
      simp (disch := omega) only [wpX_isBlocked, wpX_isCodeAddress, wpX_isAlive, wpX_isThread, wpX_isResource, ha, hpc, e1, e2, e3, h10, hs, g0, q, qn, am_ne_14_10, am_ne_x, nI_clamp, pk_us, am_uu, nI_1, nI_pred, am_ip, nI_add, am_m8, am_m4, vp_in_nI, true_and, and_true, forall_eq, true_implies, false_implies, not_true_eq_false, not_false_eq_true, am_ne_1_0, Int32.reduceLT, Int32.reduceLE]
      exact h
    · have hz : ¬ ca p < 0 := am_nb (by omega) q
      have qn : ¬ ca p = nI t := fun z => nI_ge ht (by omega) (z ▸ q)
      refine ⟨0, fun post h => ?_⟩
      simp (disch := omega) only [wpX_isBlocked, wpX_isCodeAddress, wpX_isAlive, wpX_isThread, wpX_isResource, ha, hpc, e1, e2, e3, h10, hs, g0, q, hz, qn, am_ne_14_10, am_ne_x, nI_clamp, pk_us, am_uu, nI_1, nI_pred, am_ip, nI_add, am_m8, am_m4, vp_in_nI, true_and, and_true, forall_eq, true_implies, false_implies, not_true_eq_false, not_false_eq_true, am_ne_1_0, Int32.reduceLT, Int32.reduceLE]
      exact h
    · have g1 : ¬ nI u < 0 := nI_pos (by omega)
      have g2 : ¬ nI M ≤ nI u := nI_ge hu (by omega)
      by_cases w : u = t
      · subst w
        refine ⟨0, fun post h => ?_⟩
        simp (disch := omega) only [wpX_isBlocked, wpX_isCodeAddress, wpX_isAlive, wpX_isThread, wpX_isResource, ha, hpc, e1, e2, e3, h10, hs, g0, q, g1, g2, am_ne_14_10, am_ne_x, nI_clamp, pk_us, am_uu, nI_1, nI_pred, am_ip, nI_add, am_m8, am_m4, vp_in_nI, true_and, and_true, forall_eq, true_implies, false_implies, not_true_eq_false, not_false_eq_true, am_ne_1_0, Int32.reduceLT, Int32.reduceLE]
        exact h
      have qn : ¬ nI u = nI t := fun z => w ((nI_eq (by omega) (by omega)).mp z)
      by_cases y : st u = 1
      · by_cases z : pn u = 4
        · refine ⟨1, fun post h => ?_⟩
          simp (disch := omega) only [wpX_isBlocked, wpX_isCodeAddress, wpX_isAlive, wpX_isThread, wpX_isResource, ha, hpc, e1, e2, e3, h10, hs, g0, q, g1, g2, qn, y, z, am_ne_14_10, am_ne_x, nI_clamp, pk_us, am_uu, nI_1, nI_pred, am_ip, nI_add, am_m8, am_m4, vp_in_nI, true_and, and_true, forall_eq, true_implies, false_implies, not_true_eq_false, not_false_eq_true, am_ne_1_0, Int32.reduceLT, Int32.reduceLE]
          exact h
        · refine ⟨0, fun post h => ?_⟩
          simp (disch := omega) only [wpX_isBlocked, wpX_isCodeAddress, wpX_isAlive, wpX_isThread, wpX_isResource, ha, hpc, e1, e2, e3, h10, hs, g0, q, g1, g2, qn, y, z, am_ne_14_10, am_ne_x, nI_clamp, pk_us, am_uu, nI_1, nI_pred, am_ip, nI_add, am_m8, am_m4, vp_in_nI, true_and, and_true, forall_eq, true_implies, false_implies, not_true_eq_false, not_false_eq_true, am_ne_1_0, Int32.reduceLT, Int32.reduceLE]
          exact h
      · refine ⟨0, fun post h => ?_⟩
        simp (disch := omega) only [wpX_isBlocked, wpX_isCodeAddress, wpX_isAlive, wpX_isThread, wpX_isResource, ha, hpc, e1, e2, e3, h10, hs, g0, q, g1, g2, qn, y, am_ne_14_10, am_ne_x, nI_clamp, pk_us, am_uu, nI_1, nI_pred, am_ip, nI_add, am_m8, am_m4, vp_in_nI, true_and, and_true, forall_eq, true_implies, false_implies, not_true_eq_false, not_false_eq_true, am_ne_1_0, Int32.reduceLT, Int32.reduceLE]
        exact h
  refine ⟨0, fun post h => ?_⟩
  simp (disch := omega) only [wpX_isBlocked, wpX_isCodeAddress, wpX_isAlive, wpX_isThread, wpX_isResource, ha, hpc, e1, e2, e3, h14, h10, am_ne_14_10, am_ne_x, nI_clamp, pk_us, am_uu, nI_1, nI_pred, am_ip, nI_add, am_m8, am_m4, vp_in_nI, true_and, and_true, forall_eq, true_implies, false_implies, not_true_eq_false, not_false_eq_true, am_ne_1_0, Int32.reduceLT, Int32.reduceLE]
  exact h
theorem am_bl2 (I : am_I M st mk ex sd fd pn fk fa) (ht : t < M) (hN : N ≤ 64) (ha : st t = 1) : ∃ y : Int32, (∀ post : Int32 → Prop, post y → wpX_isBlocked post (nI C, nI Z, nI N, nI M, co, ca, st, pc, mk, ex, sd, fd, pn, sk, fk, fa, fs, pd, ho, aq, rl) (nI t)) ∧ (y = 0 → ∀ p r, p < N → pc t = nI p → r < 8 → co p = 14 → ca p = nI r → ho r = -1) := by
  have hM := I.1
  by_cases hB : ∃ p r, p < N ∧ pc t = nI p ∧ r < 8 ∧ co p = 14 ∧ ca p = nI r ∧ ¬ ho r = -1
  · obtain ⟨p, r, hp, hpc, hr, h14, q, w⟩ := hB
    have e1 : ¬ nI p < 0 := nI_pos (by omega)
    have e2 : ¬ nI N ≤ nI p := nI_ge hp (by omega)
    have g1 : ¬ nI r < 0 := nI_pos (by omega)
    have g2 : ¬ 8 ≤ nI r := nI_ge (b := 8) hr (by omega)
    refine ⟨1, fun post h => ?_, fun z => absurd z (by decide)⟩
    simp (disch := omega) only [wpX_isBlocked, wpX_isCodeAddress, wpX_isAlive, wpX_isThread, wpX_isResource, ha, hpc, e1, e2, h14, q, g1, g2, w, am_ne_14_10, am_ne_x, nI_clamp, pk_us, am_uu, nI_1, nI_pred, am_ip, nI_add, am_m8, am_m4, vp_in_nI, true_and, and_true, forall_eq, true_implies, false_implies, not_true_eq_false, not_false_eq_true, am_ne_1_0, Int32.reduceLT, Int32.reduceLE]
    exact h
  · obtain ⟨y, hy⟩ := am_bl (C := C) (Z := Z) (co := co) (ca := ca) (pc := pc) (sk := sk) (fs := fs) (pd := pd) (ho := ho) (aq := aq) (rl := rl) I ht hN
    refine ⟨y, hy, fun _ p r hp hpc hr h14 q => ?_⟩
    by_cases w : ho r = -1
    · exact w
    · exact absurd ⟨p, r, hp, hpc, hr, h14, q, w⟩ hB
end
