section
variable {b C Z N M t p d : Nat} {co ca st pc mk ex sd fd pn sk fk fa fs pd ho aq rl : Nat → Int32}
theorem am_op_push_full (I : am_I M st mk ex sd fd pn fk fa) (K : am_K b M st fd fk fa ho aq rl) (ht : t < M) (hN : N ≤ 64) (hp : p < N) (hpc : pc t = nI p) (hop : co p = 1) (hs : sd t = 8) : am_Out (b + 1) C Z N M co ca (fun post => wpX_execute post (nI C, nI Z, nI N, nI M, co, ca, st, pc, mk, ex, sd, fd, pn, sk, fk, fa, fs, pd, ho, aq, rl) (nI t)) := by
  have hM := I.1
  obtain ⟨st', pc', mk', ex', sd', fd', pn', sk', fk', fa', fs', pd', ho', aq', rl', hI', hK', hX'⟩ := am_raise (C := C) (Z := Z) (N := N) (co := co) (ca := ca) (pc := (upd pc t (nI (p + 1)))) (sk := sk) (fs := fs) (pd := pd) (e := (-2)) I (am_K_s K hM) ht
  refine ⟨st', pc', mk', ex', sd', fd', pn', sk', fk', fa', fs', pd', ho', aq', rl', hI', hK', fun post h => ?_⟩
  simp (disch := omega) only [wpX_execute, wpX_push, hpc, hop, hs, nI_clamp, pk_us, am_uu, nI_1, nI_pred, am_ip, nI_add, am_m8, am_m4, vp_in_nI, true_and, and_true, forall_eq, true_implies, false_implies, not_true_eq_false, not_false_eq_true, am_ne_1_0, Int32.reduceLT, Int32.reduceLE]
  exact hX' _ h
theorem am_op_push (I : am_I M st mk ex sd fd pn fk fa) (K : am_K b M st fd fk fa ho aq rl) (ht : t < M) (hN : N ≤ 64) (hp : p < N) (hpc : pc t = nI p) (hop : co p = 1) (hs : sd t = nI d) (hd : d < 8) : am_Out (b + 1) C Z N M co ca (fun post => wpX_execute post (nI C, nI Z, nI N, nI M, co, ca, st, pc, mk, ex, sd, fd, pn, sk, fk, fa, fs, pd, ho, aq, rl) (nI t)) := by
  have hM := I.1
  have q8 : ¬ nI (d) = 8 := fun q => by rw [am_eq8 (by omega)] at q; omega
  have K1 := am_K_s K hM
  refine ⟨st, (upd pc t (nI (p + 1))), mk, ex, (upd sd t (nI (d + 1))), fd, pn, (upd sk (t * 8 + d) (ca p)), fk, fa, fs, pd, ho, aq, rl, (am_I_sd (d := (d + 1)) I ht (by omega)), K1, fun post h => ?_⟩
  simp (disch := omega) only [wpX_execute, wpX_push, hpc, hop, hs, q8, nI_clamp, pk_us, am_uu, nI_1, nI_pred, am_ip, nI_add, am_m8, am_m4, vp_in_nI, true_and, and_true, forall_eq, true_implies, false_implies, not_true_eq_false, not_false_eq_true, am_ne_1_0, Int32.reduceLT, Int32.reduceLE]
  exact h
theorem am_op_myid_full (I : am_I M st mk ex sd fd pn fk fa) (K : am_K b M st fd fk fa ho aq rl) (ht : t < M) (hN : N ≤ 64) (hp : p < N) (hpc : pc t = nI p) (hop : co p = 8) (hs : sd t = 8) : am_Out (b + 1) C Z N M co ca (fun post => wpX_execute post (nI C, nI Z, nI N, nI M, co, ca, st, pc, mk, ex, sd, fd, pn, sk, fk, fa, fs, pd, ho, aq, rl) (nI t)) := by
  have hM := I.1
  obtain ⟨st', pc', mk', ex', sd', fd', pn', sk', fk', fa', fs', pd', ho', aq', rl', hI', hK', hX'⟩ := am_raise (C := C) (Z := Z) (N := N) (co := co) (ca := ca) (pc := (upd pc t (nI (p + 1)))) (sk := sk) (fs := fs) (pd := pd) (e := (-2)) I (am_K_s K hM) ht
  refine ⟨st', pc', mk', ex', sd', fd', pn', sk', fk', fa', fs', pd', ho', aq', rl', hI', hK', fun post h => ?_⟩
  simp (disch := omega) only [wpX_execute, wpX_push, hpc, hop, am_ne_8_1, am_ne_8_2, am_ne_8_3, am_ne_8_4, am_ne_8_5, am_ne_8_6, am_ne_8_7, hs, nI_clamp, pk_us, am_uu, nI_1, nI_pred, am_ip, nI_add, am_m8, am_m4, vp_in_nI, true_and, and_true, forall_eq, true_implies, false_implies, not_true_eq_false, not_false_eq_true, am_ne_1_0, Int32.reduceLT, Int32.reduceLE]
  exact hX' _ h
theorem am_op_myid (I : am_I M st mk ex sd fd pn fk fa) (K : am_K b M st fd fk fa ho aq rl) (ht : t < M) (hN : N ≤ 64) (hp : p < N) (hpc : pc t = nI p) (hop : co p = 8) (hs : sd t = nI d) (hd : d < 8) : am_Out (b + 1) C Z N M co ca (fun post => wpX_execute post (nI C, nI Z, nI N, nI M, co, ca, st, pc, mk, ex, sd, fd, pn, sk, fk, fa, fs, pd, ho, aq, rl) (nI t)) := by
  have hM := I.1
  have q8 : ¬ nI (d) = 8 := fun q => by rw [am_eq8 (by omega)] at q; omega
  have K1 := am_K_s K hM
  refine ⟨st, (upd pc t (nI (p + 1))), mk, ex, (upd sd t (nI (d + 1))), fd, pn, (upd sk (t * 8 + d) (nI t)), fk, fa, fs, pd, ho, aq, rl, (am_I_sd (d := (d + 1)) I ht (by omega)), K1, fun post h => ?_⟩
  simp (disch := omega) only [wpX_execute, wpX_push, hpc, hop, am_ne_8_1, am_ne_8_2, am_ne_8_3, am_ne_8_4, am_ne_8_5, am_ne_8_6, am_ne_8_7, hs, q8, nI_clamp, pk_us, am_uu, nI_1, nI_pred, am_ip, nI_add, am_m8, am_m4, vp_in_nI, true_and, and_true, forall_eq, true_implies, false_implies, not_true_eq_false, not_false_eq_true, am_ne_1_0, Int32.reduceLT, Int32.reduceLE]
  exact h
theorem am_op_pop_0 (I : am_I M st mk ex sd fd pn fk fa) (K : am_K b M st fd fk fa ho aq rl) (ht : t < M) (hN : N ≤ 64) (hp : p < N) (hpc : pc t = nI p) (hop : co p = 2) (hs : sd t = 0) : am_Out (b + 1) C Z N M co ca (fun post => wpX_execute post (nI C, nI Z, nI N, nI M, co, ca, st, pc, mk, ex, sd, fd, pn, sk, fk, fa, fs, pd, ho, aq, rl) (nI t)) := by
  have hM := I.1
  obtain ⟨st', pc', mk', ex', sd', fd', pn', sk', fk', fa', fs', pd', ho', aq', rl', hI', hK', hX'⟩ := am_raise (C := C) (Z := Z) (N := N) (co := co) (ca := ca) (pc := (upd pc t (nI (p + 1)))) (sk := sk) (fs := fs) (pd := pd) (e := (-1)) I (am_K_s K hM) ht
  refine ⟨st', pc', mk', ex', sd', fd', pn', sk', fk', fa', fs', pd', ho', aq', rl', hI', hK', fun post h => ?_⟩
  simp (disch := omega) only [wpX_execute, wpX_discardTop, wpX_requireOperands, hpc, hop, am_ne_2_1, hs, nI_clamp, pk_us, am_uu, nI_1, nI_pred, am_ip, nI_add, am_m8, am_m4, vp_in_nI, true_and, and_true, forall_eq, true_implies, false_implies, not_true_eq_false, not_false_eq_true, am_ne_1_0, Int32.reduceLT, Int32.reduceLE]
  exact hX' _ h
theorem am_op_pop (I : am_I M st mk ex sd fd pn fk fa) (K : am_K b M st fd fk fa ho aq rl) (ht : t < M) (hN : N ≤ 64) (hp : p < N) (hpc : pc t = nI p) (hop : co p = 2) (hs : sd t = nI (d + 1)) (hd : d < 8) : am_Out (b + 1) C Z N M co ca (fun post => wpX_execute post (nI C, nI Z, nI N, nI M, co, ca, st, pc, mk, ex, sd, fd, pn, sk, fk, fa, fs, pd, ho, aq, rl) (nI t)) := by
  have hM := I.1
  have q0 : ¬ nI (d + 1) = 0 := fun q => by rw [am_eq0 (by omega)] at q; omega
  have q1 : 1 ≤ nI (d + 1) := nI_le (a := 1) (by omega) (by omega)
  have K1 := am_K_s K hM
  refine ⟨st, (upd pc t (nI (p + 1))), mk, ex, (upd sd t (nI d)), fd, pn, sk, fk, fa, fs, pd, ho, aq, rl, (am_I_sd (d := d) I ht (by omega)), K1, fun post h => ?_⟩
  simp (disch := omega) only [wpX_execute, wpX_discardTop, wpX_requireOperands, hpc, hop, am_ne_2_1, hs, q0, q1, nI_clamp, pk_us, am_uu, nI_1, nI_pred, am_ip, nI_add, am_m8, am_m4, vp_in_nI, true_and, and_true, forall_eq, true_implies, false_implies, not_true_eq_false, not_false_eq_true, am_ne_1_0, Int32.reduceLT, Int32.reduceLE]
  exact h
theorem am_op_dup_0 (I : am_I M st mk ex sd fd pn fk fa) (K : am_K b M st fd fk fa ho aq rl) (ht : t < M) (hN : N ≤ 64) (hp : p < N) (hpc : pc t = nI p) (hop : co p = 3) (hs : sd t = 0) : am_Out (b + 1) C Z N M co ca (fun post => wpX_execute post (nI C, nI Z, nI N, nI M, co, ca, st, pc, mk, ex, sd, fd, pn, sk, fk, fa, fs, pd, ho, aq, rl) (nI t)) := by
  have hM := I.1
  obtain ⟨st', pc', mk', ex', sd', fd', pn', sk', fk', fa', fs', pd', ho', aq', rl', hI', hK', hX'⟩ := am_raise (C := C) (Z := Z) (N := N) (co := co) (ca := ca) (pc := (upd pc t (nI (p + 1)))) (sk := sk) (fs := fs) (pd := pd) (e := (-1)) I (am_K_s K hM) ht
  refine ⟨st', pc', mk', ex', sd', fd', pn', sk', fk', fa', fs', pd', ho', aq', rl', hI', hK', fun post h => ?_⟩
  simp (disch := omega) only [wpX_execute, wpX_duplicateTop, wpX_requireOperands, hpc, hop, am_ne_3_1, am_ne_3_2, hs, nI_clamp, pk_us, am_uu, nI_1, nI_pred, am_ip, nI_add, am_m8, am_m4, vp_in_nI, true_and, and_true, forall_eq, true_implies, false_implies, not_true_eq_false, not_false_eq_true, am_ne_1_0, Int32.reduceLT, Int32.reduceLE]
  exact hX' _ h
theorem am_op_dup_full (I : am_I M st mk ex sd fd pn fk fa) (K : am_K b M st fd fk fa ho aq rl) (ht : t < M) (hN : N ≤ 64) (hp : p < N) (hpc : pc t = nI p) (hop : co p = 3) (hs : sd t = nI (d + 1)) (hd : d = 7) : am_Out (b + 1) C Z N M co ca (fun post => wpX_execute post (nI C, nI Z, nI N, nI M, co, ca, st, pc, mk, ex, sd, fd, pn, sk, fk, fa, fs, pd, ho, aq, rl) (nI t)) := by
  have hM := I.1
  have q0 : ¬ nI (d + 1) = 0 := fun q => by rw [am_eq0 (by omega)] at q; omega
  have q1 : 1 ≤ nI (d + 1) := nI_le (a := 1) (by omega) (by omega)
  have q8 : (nI (d + 1) = 8) = True := eq_true (by rw [hd]; rfl)
  obtain ⟨st', pc', mk', ex', sd', fd', pn', sk', fk', fa', fs', pd', ho', aq', rl', hI', hK', hX'⟩ := am_raise (C := C) (Z := Z) (N := N) (co := co) (ca := ca) (pc := (upd pc t (nI (p + 1)))) (sk := sk) (fs := fs) (pd := pd) (e := (-2)) I (am_K_s K hM) ht
  refine ⟨st', pc', mk', ex', sd', fd', pn', sk', fk', fa', fs', pd', ho', aq', rl', hI', hK', fun post h => ?_⟩
  simp (disch := omega) only [wpX_execute, wpX_duplicateTop, wpX_push, wpX_requireOperands, hpc, hop, am_ne_3_1, am_ne_3_2, hs, q0, q1, q8, nI_clamp, pk_us, am_uu, nI_1, nI_pred, am_ip, nI_add, am_m8, am_m4, vp_in_nI, true_and, and_true, forall_eq, true_implies, false_implies, not_true_eq_false, not_false_eq_true, am_ne_1_0, Int32.reduceLT, Int32.reduceLE]
  exact hX' _ h
theorem am_op_dup (I : am_I M st mk ex sd fd pn fk fa) (K : am_K b M st fd fk fa ho aq rl) (ht : t < M) (hN : N ≤ 64) (hp : p < N) (hpc : pc t = nI p) (hop : co p = 3) (hs : sd t = nI (d + 1)) (hd : d + 1 < 8) : am_Out (b + 1) C Z N M co ca (fun post => wpX_execute post (nI C, nI Z, nI N, nI M, co, ca, st, pc, mk, ex, sd, fd, pn, sk, fk, fa, fs, pd, ho, aq, rl) (nI t)) := by
  have hM := I.1
  have q0 : ¬ nI (d + 1) = 0 := fun q => by rw [am_eq0 (by omega)] at q; omega
  have q8 : ¬ nI (d + 1) = 8 := fun q => by rw [am_eq8 (by omega)] at q; omega
  have q1 : 1 ≤ nI (d + 1) := nI_le (a := 1) (by omega) (by omega)
  have K1 := am_K_s K hM
  refine ⟨st, (upd pc t (nI (p + 1))), mk, ex, (upd sd t (nI (d + 1 + 1))), fd, pn, (upd sk (t * 8 + (d + 1)) (sk (t * 8 + d))), fk, fa, fs, pd, ho, aq, rl, (am_I_sd (d := (d + 1 + 1)) I ht (by omega)), K1, fun post h => ?_⟩
  simp (disch := omega) only [wpX_execute, wpX_duplicateTop, wpX_push, wpX_requireOperands, hpc, hop, am_ne_3_1, am_ne_3_2, hs, q0, q1, q8, nI_clamp, pk_us, am_uu, nI_1, nI_pred, am_ip, nI_add, am_m8, am_m4, vp_in_nI, true_and, and_true, forall_eq, true_implies, false_implies, not_true_eq_false, not_false_eq_true, am_ne_1_0, Int32.reduceLT, Int32.reduceLE]
  exact h
theorem am_op_add_0 (I : am_I M st mk ex sd fd pn fk fa) (K : am_K b M st fd fk fa ho aq rl) (ht : t < M) (hN : N ≤ 64) (hp : p < N) (hpc : pc t = nI p) (hop : co p = 4) (hs : sd t = nI d) (hd : d < 2) : am_Out (b + 1) C Z N M co ca (fun post => wpX_execute post (nI C, nI Z, nI N, nI M, co, ca, st, pc, mk, ex, sd, fd, pn, sk, fk, fa, fs, pd, ho, aq, rl) (nI t)) := by
  have hM := I.1
  have q2 : ¬ 2 ≤ nI d := nI_ge (b := 2) hd (by omega)
  obtain ⟨st', pc', mk', ex', sd', fd', pn', sk', fk', fa', fs', pd', ho', aq', rl', hI', hK', hX'⟩ := am_raise (C := C) (Z := Z) (N := N) (co := co) (ca := ca) (pc := (upd pc t (nI (p + 1)))) (sk := sk) (fs := fs) (pd := pd) (e := (-1)) I (am_K_s K hM) ht
  refine ⟨st', pc', mk', ex', sd', fd', pn', sk', fk', fa', fs', pd', ho', aq', rl', hI', hK', fun post h => ?_⟩
  simp (disch := omega) only [wpX_execute, wpX_addTopTwo, wpX_requireOperands, hpc, hop, am_ne_4_1, am_ne_4_2, am_ne_4_3, hs, q2, nI_clamp, pk_us, am_uu, nI_1, nI_pred, am_ip, nI_add, am_m8, am_m4, vp_in_nI, true_and, and_true, forall_eq, true_implies, false_implies, not_true_eq_false, not_false_eq_true, am_ne_1_0, Int32.reduceLT, Int32.reduceLE]
  exact hX' _ h
theorem am_op_add (I : am_I M st mk ex sd fd pn fk fa) (K : am_K b M st fd fk fa ho aq rl) (ht : t < M) (hN : N ≤ 64) (hp : p < N) (hpc : pc t = nI p) (hop : co p = 4) (hs : sd t = nI (d + 1 + 1)) (hd : d + 1 < 8) : am_Out (b + 1) C Z N M co ca (fun post => wpX_execute post (nI C, nI Z, nI N, nI M, co, ca, st, pc, mk, ex, sd, fd, pn, sk, fk, fa, fs, pd, ho, aq, rl) (nI t)) := by
  have hM := I.1
  have q2 : 2 ≤ nI (d + 1 + 1) := nI_le (a := 2) (by omega) (by omega)
  have q8 : ¬ nI (d) = 8 := fun q => by rw [am_eq8 (by omega)] at q; omega
  have K1 := am_K_s K hM
  refine ⟨st, (upd pc t (nI (p + 1))), mk, ex, (upd sd t (nI (d + 1))), fd, pn, (upd sk (t * 8 + d) (sk (t * 8 + d) + sk (t * 8 + (d + 1)))), fk, fa, fs, pd, ho, aq, rl, (am_I_sd (d := (d + 1)) I ht (by omega)), K1, fun post h => ?_⟩
  simp (disch := omega) only [wpX_execute, wpX_addTopTwo, wpX_popTop, wpX_push, wpX_requireOperands, hpc, hop, am_ne_4_1, am_ne_4_2, am_ne_4_3, hs, q2, q8, nI_clamp, pk_us, am_uu, nI_1, nI_pred, am_ip, nI_add, am_m8, am_m4, vp_in_nI, true_and, and_true, forall_eq, true_implies, false_implies, not_true_eq_false, not_false_eq_true, am_ne_1_0, Int32.reduceLT, Int32.reduceLE]
  exact h
theorem am_op_sub_0 (I : am_I M st mk ex sd fd pn fk fa) (K : am_K b M st fd fk fa ho aq rl) (ht : t < M) (hN : N ≤ 64) (hp : p < N) (hpc : pc t = nI p) (hop : co p = 5) (hs : sd t = nI d) (hd : d < 2) : am_Out (b + 1) C Z N M co ca (fun post => wpX_execute post (nI C, nI Z, nI N, nI M, co, ca, st, pc, mk, ex, sd, fd, pn, sk, fk, fa, fs, pd, ho, aq, rl) (nI t)) := by
  have hM := I.1
  have q2 : ¬ 2 ≤ nI d := nI_ge (b := 2) hd (by omega)
  obtain ⟨st', pc', mk', ex', sd', fd', pn', sk', fk', fa', fs', pd', ho', aq', rl', hI', hK', hX'⟩ := am_raise (C := C) (Z := Z) (N := N) (co := co) (ca := ca) (pc := (upd pc t (nI (p + 1)))) (sk := sk) (fs := fs) (pd := pd) (e := (-1)) I (am_K_s K hM) ht
  refine ⟨st', pc', mk', ex', sd', fd', pn', sk', fk', fa', fs', pd', ho', aq', rl', hI', hK', fun post h => ?_⟩
  simp (disch := omega) only [wpX_execute, wpX_subtractTopTwo, wpX_requireOperands, hpc, hop, am_ne_5_1, am_ne_5_2, am_ne_5_3, am_ne_5_4, hs, q2, nI_clamp, pk_us, am_uu, nI_1, nI_pred, am_ip, nI_add, am_m8, am_m4, vp_in_nI, true_and, and_true, forall_eq, true_implies, false_implies, not_true_eq_false, not_false_eq_true, am_ne_1_0, Int32.reduceLT, Int32.reduceLE]
  exact hX' _ h
theorem am_op_sub (I : am_I M st mk ex sd fd pn fk fa) (K : am_K b M st fd fk fa ho aq rl) (ht : t < M) (hN : N ≤ 64) (hp : p < N) (hpc : pc t = nI p) (hop : co p = 5) (hs : sd t = nI (d + 1 + 1)) (hd : d + 1 < 8) : am_Out (b + 1) C Z N M co ca (fun post => wpX_execute post (nI C, nI Z, nI N, nI M, co, ca, st, pc, mk, ex, sd, fd, pn, sk, fk, fa, fs, pd, ho, aq, rl) (nI t)) := by
  have hM := I.1
  have q2 : 2 ≤ nI (d + 1 + 1) := nI_le (a := 2) (by omega) (by omega)
  have q8 : ¬ nI (d) = 8 := fun q => by rw [am_eq8 (by omega)] at q; omega
  have K1 := am_K_s K hM
  refine ⟨st, (upd pc t (nI (p + 1))), mk, ex, (upd sd t (nI (d + 1))), fd, pn, (upd sk (t * 8 + d) (sk (t * 8 + d) - sk (t * 8 + (d + 1)))), fk, fa, fs, pd, ho, aq, rl, (am_I_sd (d := (d + 1)) I ht (by omega)), K1, fun post h => ?_⟩
  simp (disch := omega) only [wpX_execute, wpX_subtractTopTwo, wpX_popTop, wpX_push, wpX_requireOperands, hpc, hop, am_ne_5_1, am_ne_5_2, am_ne_5_3, am_ne_5_4, hs, q2, q8, nI_clamp, pk_us, am_uu, nI_1, nI_pred, am_ip, nI_add, am_m8, am_m4, vp_in_nI, true_and, and_true, forall_eq, true_implies, false_implies, not_true_eq_false, not_false_eq_true, am_ne_1_0, Int32.reduceLT, Int32.reduceLE]
  exact h
theorem am_op_jmp (I : am_I M st mk ex sd fd pn fk fa) (K : am_K b M st fd fk fa ho aq rl) (ht : t < M) (hN : N ≤ 64) (hp : p < N) (hpc : pc t = nI p) (hop : co p = 6)  : am_Out (b + 1) C Z N M co ca (fun post => wpX_execute post (nI C, nI Z, nI N, nI M, co, ca, st, pc, mk, ex, sd, fd, pn, sk, fk, fa, fs, pd, ho, aq, rl) (nI t)) := by
  have hM := I.1
  have K1 := am_K_s K hM
  refine ⟨st, (upd pc t (ca p)), mk, ex, sd, fd, pn, sk, fk, fa, fs, pd, ho, aq, rl, I, K1, fun post h => ?_⟩
  simp (disch := omega) only [wpX_execute, hpc, hop, am_ne_6_1, am_ne_6_2, am_ne_6_3, am_ne_6_4, am_ne_6_5, nI_clamp, pk_us, am_uu, nI_1, nI_pred, am_ip, nI_add, am_m8, am_m4, vp_in_nI, true_and, and_true, forall_eq, true_implies, false_implies, not_true_eq_false, not_false_eq_true, am_ne_1_0, Int32.reduceLT, Int32.reduceLE]
  exact h
theorem am_op_jz_0 (I : am_I M st mk ex sd fd pn fk fa) (K : am_K b M st fd fk fa ho aq rl) (ht : t < M) (hN : N ≤ 64) (hp : p < N) (hpc : pc t = nI p) (hop : co p = 7) (hs : sd t = 0) : am_Out (b + 1) C Z N M co ca (fun post => wpX_execute post (nI C, nI Z, nI N, nI M, co, ca, st, pc, mk, ex, sd, fd, pn, sk, fk, fa, fs, pd, ho, aq, rl) (nI t)) := by
  have hM := I.1
  obtain ⟨st', pc', mk', ex', sd', fd', pn', sk', fk', fa', fs', pd', ho', aq', rl', hI', hK', hX'⟩ := am_raise (C := C) (Z := Z) (N := N) (co := co) (ca := ca) (pc := (upd pc t (nI (p + 1)))) (sk := sk) (fs := fs) (pd := pd) (e := (-1)) I (am_K_s K hM) ht
  refine ⟨st', pc', mk', ex', sd', fd', pn', sk', fk', fa', fs', pd', ho', aq', rl', hI', hK', fun post h => ?_⟩
  simp (disch := omega) only [wpX_execute, wpX_jumpIfZero, wpX_requireOperands, hpc, hop, am_ne_7_1, am_ne_7_2, am_ne_7_3, am_ne_7_4, am_ne_7_5, am_ne_7_6, hs, nI_clamp, pk_us, am_uu, nI_1, nI_pred, am_ip, nI_add, am_m8, am_m4, vp_in_nI, true_and, and_true, forall_eq, true_implies, false_implies, not_true_eq_false, not_false_eq_true, am_ne_1_0, Int32.reduceLT, Int32.reduceLE]
  exact hX' _ h
theorem am_op_jz_y (I : am_I M st mk ex sd fd pn fk fa) (K : am_K b M st fd fk fa ho aq rl) (ht : t < M) (hN : N ≤ 64) (hp : p < N) (hpc : pc t = nI p) (hop : co p = 7) (hs : sd t = nI (d + 1)) (hd : d < 8) (hv : sk (t * 8 + d) = 0) : am_Out (b + 1) C Z N M co ca (fun post => wpX_execute post (nI C, nI Z, nI N, nI M, co, ca, st, pc, mk, ex, sd, fd, pn, sk, fk, fa, fs, pd, ho, aq, rl) (nI t)) := by
  have hM := I.1
  have q0 : ¬ nI (d + 1) = 0 := fun q => by rw [am_eq0 (by omega)] at q; omega
  have q1 : 1 ≤ nI (d + 1) := nI_le (a := 1) (by omega) (by omega)
  have K1 := am_K_s K hM
  refine ⟨st, (upd pc t (ca p)), mk, ex, (upd sd t (nI d)), fd, pn, sk, fk, fa, fs, pd, ho, aq, rl, (am_I_sd (d := d) I ht (by omega)), K1, fun post h => ?_⟩
  simp (disch := omega) only [wpX_execute, wpX_jumpIfZero, wpX_popTop, wpX_requireOperands, hpc, hop, am_ne_7_1, am_ne_7_2, am_ne_7_3, am_ne_7_4, am_ne_7_5, am_ne_7_6, hs, hv, q0, q1, nI_clamp, pk_us, am_uu, nI_1, nI_pred, am_ip, nI_add, am_m8, am_m4, vp_in_nI, true_and, and_true, forall_eq, true_implies, false_implies, not_true_eq_false, not_false_eq_true, am_ne_1_0, Int32.reduceLT, Int32.reduceLE]
  exact h
theorem am_op_jz_n (I : am_I M st mk ex sd fd pn fk fa) (K : am_K b M st fd fk fa ho aq rl) (ht : t < M) (hN : N ≤ 64) (hp : p < N) (hpc : pc t = nI p) (hop : co p = 7) (hs : sd t = nI (d + 1)) (hd : d < 8) (hv : ¬ sk (t * 8 + d) = 0) : am_Out (b + 1) C Z N M co ca (fun post => wpX_execute post (nI C, nI Z, nI N, nI M, co, ca, st, pc, mk, ex, sd, fd, pn, sk, fk, fa, fs, pd, ho, aq, rl) (nI t)) := by
  have hM := I.1
  have q0 : ¬ nI (d + 1) = 0 := fun q => by rw [am_eq0 (by omega)] at q; omega
  have q1 : 1 ≤ nI (d + 1) := nI_le (a := 1) (by omega) (by omega)
  have K1 := am_K_s K hM
  refine ⟨st, (upd pc t (nI (p + 1))), mk, ex, (upd sd t (nI d)), fd, pn, sk, fk, fa, fs, pd, ho, aq, rl, (am_I_sd (d := d) I ht (by omega)), K1, fun post h => ?_⟩
  simp (disch := omega) only [wpX_execute, wpX_jumpIfZero, wpX_popTop, wpX_requireOperands, hpc, hop, am_ne_7_1, am_ne_7_2, am_ne_7_3, am_ne_7_4, am_ne_7_5, am_ne_7_6, hs, hv, q0, q1, nI_clamp, pk_us, am_uu, nI_1, nI_pred, am_ip, nI_add, am_m8, am_m4, vp_in_nI, true_and, and_true, forall_eq, true_implies, false_implies, not_true_eq_false, not_false_eq_true, am_ne_1_0, Int32.reduceLT, Int32.reduceLE]
  exact h
theorem am_op_thr_0 (I : am_I M st mk ex sd fd pn fk fa) (K : am_K b M st fd fk fa ho aq rl) (ht : t < M) (hN : N ≤ 64) (hp : p < N) (hpc : pc t = nI p) (hop : co p = 9) (hs : sd t = 0) : am_Out (b + 1) C Z N M co ca (fun post => wpX_execute post (nI C, nI Z, nI N, nI M, co, ca, st, pc, mk, ex, sd, fd, pn, sk, fk, fa, fs, pd, ho, aq, rl) (nI t)) := by
  have hM := I.1
  obtain ⟨st', pc', mk', ex', sd', fd', pn', sk', fk', fa', fs', pd', ho', aq', rl', hI', hK', hX'⟩ := am_raise (C := C) (Z := Z) (N := N) (co := co) (ca := ca) (pc := (upd pc t (nI (p + 1)))) (sk := sk) (fs := fs) (pd := pd) (e := (-1)) I (am_K_s K hM) ht
  refine ⟨st', pc', mk', ex', sd', fd', pn', sk', fk', fa', fs', pd', ho', aq', rl', hI', hK', fun post h => ?_⟩
  simp (disch := omega) only [wpX_execute, wpX_throwTop, wpX_requireOperands, hpc, hop, am_ne_9_1, am_ne_9_2, am_ne_9_3, am_ne_9_4, am_ne_9_5, am_ne_9_6, am_ne_9_7, am_ne_9_8, hs, nI_clamp, pk_us, am_uu, nI_1, nI_pred, am_ip, nI_add, am_m8, am_m4, vp_in_nI, true_and, and_true, forall_eq, true_implies, false_implies, not_true_eq_false, not_false_eq_true, am_ne_1_0, Int32.reduceLT, Int32.reduceLE]
  exact hX' _ h
theorem am_op_thr (I : am_I M st mk ex sd fd pn fk fa) (K : am_K b M st fd fk fa ho aq rl) (ht : t < M) (hN : N ≤ 64) (hp : p < N) (hpc : pc t = nI p) (hop : co p = 9) (hs : sd t = nI (d + 1)) (hd : d < 8) : am_Out (b + 1) C Z N M co ca (fun post => wpX_execute post (nI C, nI Z, nI N, nI M, co, ca, st, pc, mk, ex, sd, fd, pn, sk, fk, fa, fs, pd, ho, aq, rl) (nI t)) := by
  have hM := I.1
  have q0 : ¬ nI (d + 1) = 0 := fun q => by rw [am_eq0 (by omega)] at q; omega
  have q1 : 1 ≤ nI (d + 1) := nI_le (a := 1) (by omega) (by omega)
  obtain ⟨st', pc', mk', ex', sd', fd', pn', sk', fk', fa', fs', pd', ho', aq', rl', hI', hK', hX'⟩ := am_raise (C := C) (Z := Z) (N := N) (co := co) (ca := ca) (pc := (upd pc t (nI (p + 1)))) (sk := sk) (fs := fs) (pd := pd) (e := (sk (t * 8 + d))) (am_I_sd (d := d) I ht (by omega)) (am_K_s K hM) ht
  refine ⟨st', pc', mk', ex', sd', fd', pn', sk', fk', fa', fs', pd', ho', aq', rl', hI', hK', fun post h => ?_⟩
  simp (disch := omega) only [wpX_execute, wpX_throwTop, wpX_popTop, wpX_requireOperands, hpc, hop, am_ne_9_1, am_ne_9_2, am_ne_9_3, am_ne_9_4, am_ne_9_5, am_ne_9_6, am_ne_9_7, am_ne_9_8, hs, q0, q1, nI_clamp, pk_us, am_uu, nI_1, nI_pred, am_ip, nI_add, am_m8, am_m4, vp_in_nI, true_and, and_true, forall_eq, true_implies, false_implies, not_true_eq_false, not_false_eq_true, am_ne_1_0, Int32.reduceLT, Int32.reduceLE]
  exact hX' _ h
theorem am_op_tto_0 (I : am_I M st mk ex sd fd pn fk fa) (K : am_K b M st fd fk fa ho aq rl) (ht : t < M) (hN : N ≤ 64) (hp : p < N) (hpc : pc t = nI p) (hop : co p = 10) (hs : sd t = 0) : am_Out (b + 1) C Z N M co ca (fun post => wpX_execute post (nI C, nI Z, nI N, nI M, co, ca, st, pc, mk, ex, sd, fd, pn, sk, fk, fa, fs, pd, ho, aq, rl) (nI t)) := by
  have hM := I.1
  obtain ⟨st', pc', mk', ex', sd', fd', pn', sk', fk', fa', fs', pd', ho', aq', rl', hI', hK', hX'⟩ := am_raise (C := C) (Z := Z) (N := N) (co := co) (ca := ca) (pc := (upd pc t (nI (p + 1)))) (sk := sk) (fs := fs) (pd := pd) (e := (-1)) I (am_K_s K hM) ht
  refine ⟨st', pc', mk', ex', sd', fd', pn', sk', fk', fa', fs', pd', ho', aq', rl', hI', hK', fun post h => ?_⟩
  simp (disch := omega) only [wpX_execute, wpX_throwTopTo, wpX_popTop, wpX_requireOperands, hpc, hop, am_ne_10_1, am_ne_10_2, am_ne_10_3, am_ne_10_4, am_ne_10_5, am_ne_10_6, am_ne_10_7, am_ne_10_8, am_ne_10_9, hs, nI_clamp, pk_us, am_uu, nI_1, nI_pred, am_ip, nI_add, am_m8, am_m4, vp_in_nI, true_and, and_true, forall_eq, true_implies, false_implies, not_true_eq_false, not_false_eq_true, am_ne_1_0, Int32.reduceLT, Int32.reduceLE]
  exact hX' _ h
theorem am_op_tto_me (I : am_I M st mk ex sd fd pn fk fa) (K : am_K b M st fd fk fa ho aq rl) (ht : t < M) (hN : N ≤ 64) (hp : p < N) (hpc : pc t = nI p) (hop : co p = 10) (hs : sd t = nI (d + 1)) (hd : d < 8) (ha : ca p = nI t) : am_Out (b + 1) C Z N M co ca (fun post => wpX_execute post (nI C, nI Z, nI N, nI M, co, ca, st, pc, mk, ex, sd, fd, pn, sk, fk, fa, fs, pd, ho, aq, rl) (nI t)) := by
  have hM := I.1
  have q0 : ¬ nI (d + 1) = 0 := fun q => by rw [am_eq0 (by omega)] at q; omega
  have q1 : 1 ≤ nI (d + 1) := nI_le (a := 1) (by omega) (by omega)
  obtain ⟨st', pc', mk', ex', sd', fd', pn', sk', fk', fa', fs', pd', ho', aq', rl', hI', hK', hX'⟩ := am_raise (C := C) (Z := Z) (N := N) (co := co) (ca := ca) (pc := (upd pc t (nI (p + 1)))) (sk := sk) (fs := fs) (pd := pd) (e := (sk (t * 8 + d))) (am_I_sd (d := d) I ht (by omega)) (am_K_s K hM) ht
  refine ⟨st', pc', mk', ex', sd', fd', pn', sk', fk', fa', fs', pd', ho', aq', rl', hI', hK', fun post h => ?_⟩
  simp (disch := omega) only [wpX_execute, wpX_throwTopTo, wpX_popTop, wpX_requireOperands, hpc, hop, am_ne_10_1, am_ne_10_2, am_ne_10_3, am_ne_10_4, am_ne_10_5, am_ne_10_6, am_ne_10_7, am_ne_10_8, am_ne_10_9, hs, ha, q0, q1, nI_clamp, pk_us, am_uu, nI_1, nI_pred, am_ip, nI_add, am_m8, am_m4, vp_in_nI, true_and, and_true, forall_eq, true_implies, false_implies, not_true_eq_false, not_false_eq_true, am_ne_1_0, Int32.reduceLT, Int32.reduceLE]
  exact hX' _ h
theorem am_op_tto_neg (I : am_I M st mk ex sd fd pn fk fa) (K : am_K b M st fd fk fa ho aq rl) (ht : t < M) (hN : N ≤ 64) (hp : p < N) (hpc : pc t = nI p) (hop : co p = 10) (hs : sd t = nI (d + 1)) (hd : d < 8) (ha : ca p < 0) : am_Out (b + 1) C Z N M co ca (fun post => wpX_execute post (nI C, nI Z, nI N, nI M, co, ca, st, pc, mk, ex, sd, fd, pn, sk, fk, fa, fs, pd, ho, aq, rl) (nI t)) := by
  have hM := I.1
  have q0 : ¬ nI (d + 1) = 0 := fun q => by rw [am_eq0 (by omega)] at q; omega
  have q1 : 1 ≤ nI (d + 1) := nI_le (a := 1) (by omega) (by omega)
  have qn : ¬ ca p = nI t := fun q => by rw [q] at ha; exact nI_pos (by omega) ha
  have qz : ¬ 0 ≤ ca p := Int32.not_le.mpr ha
  have K1 := am_K_s K hM
  refine ⟨st, (upd pc t (nI (p + 1))), mk, ex, (upd sd t (nI d)), fd, pn, sk, fk, fa, fs, pd, ho, aq, rl, (am_I_sd (d := d) I ht (by omega)), K1, fun post h => ?_⟩
  simp (disch := omega) only [wpX_execute, wpX_throwTopTo, wpX_popTop, wpX_requireOperands, wpX_isAlive, wpX_isThread, wpX_appendPending, hpc, hop, am_ne_10_1, am_ne_10_2, am_ne_10_3, am_ne_10_4, am_ne_10_5, am_ne_10_6, am_ne_10_7, am_ne_10_8, am_ne_10_9, hs, ha, qn, qz, q0, q1, nI_clamp, pk_us, am_uu, nI_1, nI_pred, am_ip, nI_add, am_m8, am_m4, vp_in_nI, true_and, and_true, forall_eq, true_implies, false_implies, not_true_eq_false, not_false_eq_true, am_ne_1_0, Int32.reduceLT, Int32.reduceLE]
  exact h
theorem am_op_tto_big (I : am_I M st mk ex sd fd pn fk fa) (K : am_K b M st fd fk fa ho aq rl) (ht : t < M) (hN : N ≤ 64) (hp : p < N) (hpc : pc t = nI p) (hop : co p = 10) (hs : sd t = nI (d + 1)) (hd : d < 8) (hz : ¬ ca p < 0) (ha : nI M ≤ ca p) : am_Out (b + 1) C Z N M co ca (fun post => wpX_execute post (nI C, nI Z, nI N, nI M, co, ca, st, pc, mk, ex, sd, fd, pn, sk, fk, fa, fs, pd, ho, aq, rl) (nI t)) := by
  have hM := I.1
  have q0 : ¬ nI (d + 1) = 0 := fun q => by rw [am_eq0 (by omega)] at q; omega
  have q1 : 1 ≤ nI (d + 1) := nI_le (a := 1) (by omega) (by omega)
  have qn : ¬ ca p = nI t := fun q => by rw [q] at ha; exact nI_ge ht (by omega) ha
  have qz : ¬ ca p < nI M := Int32.not_lt.mpr ha
  have qy : 0 ≤ ca p := Int32.not_lt.mp hz
  have K1 := am_K_s K hM
  refine ⟨st, (upd pc t (nI (p + 1))), mk, ex, (upd sd t (nI d)), fd, pn, sk, fk, fa, fs, pd, ho, aq, rl, (am_I_sd (d := d) I ht (by omega)), K1, fun post h => ?_⟩
  simp (disch := omega) only [wpX_execute, wpX_throwTopTo, wpX_popTop, wpX_requireOperands, wpX_isAlive, wpX_isThread, wpX_appendPending, hpc, hop, am_ne_10_1, am_ne_10_2, am_ne_10_3, am_ne_10_4, am_ne_10_5, am_ne_10_6, am_ne_10_7, am_ne_10_8, am_ne_10_9, hs, ha, hz, qn, qz, qy, q0, q1, nI_clamp, pk_us, am_uu, nI_1, nI_pred, am_ip, nI_add, am_m8, am_m4, vp_in_nI, true_and, and_true, forall_eq, true_implies, false_implies, not_true_eq_false, not_false_eq_true, am_ne_1_0, Int32.reduceLT, Int32.reduceLE]
  exact h
theorem am_op_tto_dead (I : am_I M st mk ex sd fd pn fk fa) (K : am_K b M st fd fk fa ho aq rl) (ht : t < M) (hN : N ≤ 64) (hp : p < N) (hpc : pc t = nI p) (hop : co p = 10) (hs : sd t = nI (d + 1)) (hd : d < 8) {u c : Nat} (hu : u < M) (hut : u ≠ t) (ha : ca p = nI u) (hx : ¬ st u = 1) : am_Out (b + 1) C Z N M co ca (fun post => wpX_execute post (nI C, nI Z, nI N, nI M, co, ca, st, pc, mk, ex, sd, fd, pn, sk, fk, fa, fs, pd, ho, aq, rl) (nI t)) := by
  have hM := I.1
  have q0 : ¬ nI (d + 1) = 0 := fun q => by rw [am_eq0 (by omega)] at q; omega
  have q1 : 1 ≤ nI (d + 1) := nI_le (a := 1) (by omega) (by omega)
  have qn : ¬ nI u = nI t := fun q => hut ((nI_eq (by omega) (by omega)).mp q)
  have qy : ¬ nI u < 0 := nI_pos (by omega)
  have qx : 0 ≤ nI u := nI_pos' (by omega)
  have qm : nI u < nI M := nI_lt hu (by omega)
  have qk : ¬ nI M ≤ nI u := nI_ge hu (by omega)
  have K1 := am_K_s K hM
  refine ⟨st, (upd pc t (nI (p + 1))), mk, ex, (upd sd t (nI d)), fd, pn, sk, fk, fa, fs, pd, ho, aq, rl, (am_I_sd (d := d) I ht (by omega)), K1, fun post h => ?_⟩
  simp (disch := omega) only [wpX_execute, wpX_throwTopTo, wpX_popTop, wpX_requireOperands, wpX_isAlive, wpX_isThread, wpX_appendPending, hpc, hop, am_ne_10_1, am_ne_10_2, am_ne_10_3, am_ne_10_4, am_ne_10_5, am_ne_10_6, am_ne_10_7, am_ne_10_8, am_ne_10_9, hs, ha, qn, qy, qx, qm, qk, q0, q1, hx, nI_clamp, pk_us, am_uu, nI_1, nI_pred, am_ip, nI_add, am_m8, am_m4, vp_in_nI, true_and, and_true, forall_eq, true_implies, false_implies, not_true_eq_false, not_false_eq_true, am_ne_1_0, Int32.reduceLT, Int32.reduceLE]
  exact h
theorem am_op_tto_full (I : am_I M st mk ex sd fd pn fk fa) (K : am_K b M st fd fk fa ho aq rl) (ht : t < M) (hN : N ≤ 64) (hp : p < N) (hpc : pc t = nI p) (hop : co p = 10) (hs : sd t = nI (d + 1)) (hd : d < 8) {u c : Nat} (hu : u < M) (hut : u ≠ t) (ha : ca p = nI u) (hx : st u = 1) (hc : pn u = 4) : am_Out (b + 1) C Z N M co ca (fun post => wpX_execute post (nI C, nI Z, nI N, nI M, co, ca, st, pc, mk, ex, sd, fd, pn, sk, fk, fa, fs, pd, ho, aq, rl) (nI t)) := by
  have hM := I.1
  have q0 : ¬ nI (d + 1) = 0 := fun q => by rw [am_eq0 (by omega)] at q; omega
  have q1 : 1 ≤ nI (d + 1) := nI_le (a := 1) (by omega) (by omega)
  have qn : ¬ nI u = nI t := fun q => hut ((nI_eq (by omega) (by omega)).mp q)
  have qy : ¬ nI u < 0 := nI_pos (by omega)
  have qx : 0 ≤ nI u := nI_pos' (by omega)
  have qm : nI u < nI M := nI_lt hu (by omega)
  have qk : ¬ nI M ≤ nI u := nI_ge hu (by omega)
  have K1 := am_K_s K hM
  refine ⟨st, (upd pc t (nI (p + 1))), mk, ex, (upd sd t (nI d)), fd, pn, sk, fk, fa, fs, pd, ho, aq, rl, (am_I_sd (d := d) I ht (by omega)), K1, fun post h => ?_⟩
  simp (disch := omega) only [wpX_execute, wpX_throwTopTo, wpX_popTop, wpX_requireOperands, wpX_isAlive, wpX_isThread, wpX_appendPending, hpc, hop, am_ne_10_1, am_ne_10_2, am_ne_10_3, am_ne_10_4, am_ne_10_5, am_ne_10_6, am_ne_10_7, am_ne_10_8, am_ne_10_9, hs, ha, qn, qy, qx, qm, qk, q0, q1, hx, hc, nI_clamp, pk_us, am_uu, nI_1, nI_pred, am_ip, nI_add, am_m8, am_m4, vp_in_nI, true_and, and_true, forall_eq, true_implies, false_implies, not_true_eq_false, not_false_eq_true, am_ne_1_0, Int32.reduceLT, Int32.reduceLE]
  exact h
theorem am_op_tto (I : am_I M st mk ex sd fd pn fk fa) (K : am_K b M st fd fk fa ho aq rl) (ht : t < M) (hN : N ≤ 64) (hp : p < N) (hpc : pc t = nI p) (hop : co p = 10) (hs : sd t = nI (d + 1)) (hd : d < 8) {u c : Nat} (hu : u < M) (hut : u ≠ t) (ha : ca p = nI u) (hx : st u = 1) (hc : pn u = nI c) (hc4 : c < 4) : am_Out (b + 1) C Z N M co ca (fun post => wpX_execute post (nI C, nI Z, nI N, nI M, co, ca, st, pc, mk, ex, sd, fd, pn, sk, fk, fa, fs, pd, ho, aq, rl) (nI t)) := by
  have hM := I.1
  have q0 : ¬ nI (d + 1) = 0 := fun q => by rw [am_eq0 (by omega)] at q; omega
  have q1 : 1 ≤ nI (d + 1) := nI_le (a := 1) (by omega) (by omega)
  have qn : ¬ nI u = nI t := fun q => hut ((nI_eq (by omega) (by omega)).mp q)
  have qy : ¬ nI u < 0 := nI_pos (by omega)
  have qx : 0 ≤ nI u := nI_pos' (by omega)
  have qm : nI u < nI M := nI_lt hu (by omega)
  have qk : ¬ nI M ≤ nI u := nI_ge hu (by omega)
  have q4 : ¬ nI (c) = 4 := fun q => by rw [am_eq4 (by omega)] at q; omega
  have q5 : ¬ 4 ≤ nI c := nI_ge (b := 4) hc4 (by omega)
  have q6 : nI c < 4 := nI_lt (b := 4) hc4 (by omega)
  have K1 := am_K_s K hM
  refine ⟨st, (upd pc t (nI (p + 1))), mk, ex, (upd sd t (nI d)), fd, (upd pn u (nI (c + 1))), sk, fk, fa, fs, (upd pd (u * 4 + c) (sk (t * 8 + d))), ho, aq, rl, (am_I_pn (d := c + 1) (am_I_sd (d := d) I ht (by omega)) hu (by omega)), K1, fun post h => ?_⟩
  simp (disch := omega) only [wpX_execute, wpX_throwTopTo, wpX_popTop, wpX_requireOperands, wpX_isAlive, wpX_isThread, wpX_appendPending, hpc, hop, am_ne_10_1, am_ne_10_2, am_ne_10_3, am_ne_10_4, am_ne_10_5, am_ne_10_6, am_ne_10_7, am_ne_10_8, am_ne_10_9, hs, ha, qn, qy, qx, qm, qk, q0, q1, hx, hc, q4, q5, q6, nI_clamp, pk_us, am_uu, nI_1, nI_pred, am_ip, nI_add, am_m8, am_m4, vp_in_nI, true_and, and_true, forall_eq, true_implies, false_implies, not_true_eq_false, not_false_eq_true, am_ne_1_0, Int32.reduceLT, Int32.reduceLE]
  exact h
theorem am_op_catch_full (I : am_I M st mk ex sd fd pn fk fa) (K : am_K b M st fd fk fa ho aq rl) (ht : t < M) (hN : N ≤ 64) (hp : p < N) (hpc : pc t = nI p) (hop : co p = 11) (hf : fd t = 8) : am_Out (b + 1) C Z N M co ca (fun post => wpX_execute post (nI C, nI Z, nI N, nI M, co, ca, st, pc, mk, ex, sd, fd, pn, sk, fk, fa, fs, pd, ho, aq, rl) (nI t)) := by
  have hM := I.1
  obtain ⟨st', pc', mk', ex', sd', fd', pn', sk', fk', fa', fs', pd', ho', aq', rl', hI', hK', hX'⟩ := am_raise (C := C) (Z := Z) (N := N) (co := co) (ca := ca) (pc := (upd pc t (nI (p + 1)))) (sk := sk) (fs := fs) (pd := pd) (e := (-3)) I (am_K_s K hM) ht
  refine ⟨st', pc', mk', ex', sd', fd', pn', sk', fk', fa', fs', pd', ho', aq', rl', hI', hK', fun post h => ?_⟩
  simp (disch := omega) only [wpX_execute, wpX_pushFrame, hpc, hop, am_ne_11_1, am_ne_11_2, am_ne_11_3, am_ne_11_4, am_ne_11_5, am_ne_11_6, am_ne_11_7, am_ne_11_8, am_ne_11_9, am_ne_11_10, hf, nI_clamp, pk_us, am_uu, nI_1, nI_pred, am_ip, nI_add, am_m8, am_m4, vp_in_nI, true_and, and_true, forall_eq, true_implies, false_implies, not_true_eq_false, not_false_eq_true, am_ne_1_0, Int32.reduceLT, Int32.reduceLE]
  exact hX' _ h
theorem am_op_catch (I : am_I M st mk ex sd fd pn fk fa) (K : am_K b M st fd fk fa ho aq rl) (ht : t < M) (hN : N ≤ 64) (hp : p < N) (hpc : pc t = nI p) (hop : co p = 11) (hf : fd t = nI d) (hd : d < 8) : am_Out (b + 1) C Z N M co ca (fun post => wpX_execute post (nI C, nI Z, nI N, nI M, co, ca, st, pc, mk, ex, sd, fd, pn, sk, fk, fa, fs, pd, ho, aq, rl) (nI t)) := by
  have hM := I.1
  have q8 : ¬ nI (d) = 8 := fun q => by rw [am_eq8 (by omega)] at q; omega
  have K1 := am_K_s K hM
  refine ⟨st, (upd pc t (nI (p + 1))), mk, ex, sd, (upd fd t (nI (d + 1))), pn, sk, (upd fk (t * 8 + d) 1), (upd fa (t * 8 + d) (ca p)), (upd fs (t * 8 + d) (mk t)), pd, ho, aq, rl, (am_I_fr (am_I_fd (d := d + 1) I ht (by omega)) (fun q => absurd q (by decide))), (am_K_pf K1 hM (by omega) hd hf (by decide)), fun post h => ?_⟩
  simp (disch := omega) only [wpX_execute, wpX_pushFrame, hpc, hop, am_ne_11_1, am_ne_11_2, am_ne_11_3, am_ne_11_4, am_ne_11_5, am_ne_11_6, am_ne_11_7, am_ne_11_8, am_ne_11_9, am_ne_11_10, hf, q8, nI_clamp, pk_us, am_uu, nI_1, nI_pred, am_ip, nI_add, am_m8, am_m4, vp_in_nI, true_and, and_true, forall_eq, true_implies, false_implies, not_true_eq_false, not_false_eq_true, am_ne_1_0, Int32.reduceLT, Int32.reduceLE]
  exact h
theorem am_op_mask_neg_full (I : am_I M st mk ex sd fd pn fk fa) (K : am_K b M st fd fk fa ho aq rl) (ht : t < M) (hN : N ≤ 64) (hp : p < N) (hpc : pc t = nI p) (hop : co p = 12) (ha : ca p < 0) (hf : fd t = 8) : am_Out (b + 1) C Z N M co ca (fun post => wpX_execute post (nI C, nI Z, nI N, nI M, co, ca, st, pc, mk, ex, sd, fd, pn, sk, fk, fa, fs, pd, ho, aq, rl) (nI t)) := by
  have hM := I.1
  have qa : ¬ 0 ≤ ca p := Int32.not_le.mpr ha
  obtain ⟨st', pc', mk', ex', sd', fd', pn', sk', fk', fa', fs', pd', ho', aq', rl', hI', hK', hX'⟩ := am_raise (C := C) (Z := Z) (N := N) (co := co) (ca := ca) (pc := (upd pc t (nI (p + 1)))) (sk := sk) (fs := fs) (pd := pd) (e := (-3)) I (am_K_s K hM) ht
  refine ⟨st', pc', mk', ex', sd', fd', pn', sk', fk', fa', fs', pd', ho', aq', rl', hI', hK', fun post h => ?_⟩
  simp (disch := omega) only [wpX_execute, wpX_enterMask, wpX_clamp, wpX_pushFrame, hpc, hop, am_ne_12_1, am_ne_12_2, am_ne_12_3, am_ne_12_4, am_ne_12_5, am_ne_12_6, am_ne_12_7, am_ne_12_8, am_ne_12_9, am_ne_12_10, am_ne_12_11, ha, qa, hf, nI_clamp, pk_us, am_uu, nI_1, nI_pred, am_ip, nI_add, am_m8, am_m4, vp_in_nI, true_and, and_true, forall_eq, true_implies, false_implies, not_true_eq_false, not_false_eq_true, am_ne_1_0, Int32.reduceLT, Int32.reduceLE]
  exact hX' _ h
theorem am_op_mask_neg (I : am_I M st mk ex sd fd pn fk fa) (K : am_K b M st fd fk fa ho aq rl) (ht : t < M) (hN : N ≤ 64) (hp : p < N) (hpc : pc t = nI p) (hop : co p = 12) (ha : ca p < 0) (hf : fd t = nI d) (hd : d < 8) : am_Out (b + 1) C Z N M co ca (fun post => wpX_execute post (nI C, nI Z, nI N, nI M, co, ca, st, pc, mk, ex, sd, fd, pn, sk, fk, fa, fs, pd, ho, aq, rl) (nI t)) := by
  have hM := I.1
  have qa : ¬ 0 ≤ ca p := Int32.not_le.mpr ha
  have q8 : ¬ nI (d) = 8 := fun q => by rw [am_eq8 (by omega)] at q; omega
  have K1 := am_K_s K hM
  refine ⟨st, (upd pc t (nI (p + 1))), (upd mk t 0), ex, sd, (upd fd t (nI (d + 1))), pn, sk, (upd fk (t * 8 + d) 2), (upd fa (t * 8 + d) 0), (upd fs (t * 8 + d) (mk t)), pd, ho, aq, rl, (am_I_mk (am_I_fr (am_I_fd (d := d + 1) I ht (by omega)) (fun q => absurd q (by decide))) ht), (am_K_pf K1 hM (by omega) hd hf (by decide)), fun post h => ?_⟩
  simp (disch := omega) only [wpX_execute, wpX_enterMask, wpX_clamp, wpX_pushFrame, hpc, hop, am_ne_12_1, am_ne_12_2, am_ne_12_3, am_ne_12_4, am_ne_12_5, am_ne_12_6, am_ne_12_7, am_ne_12_8, am_ne_12_9, am_ne_12_10, am_ne_12_11, ha, qa, hf, q8, nI_clamp, pk_us, am_uu, nI_1, nI_pred, am_ip, nI_add, am_m8, am_m4, vp_in_nI, true_and, and_true, forall_eq, true_implies, false_implies, not_true_eq_false, not_false_eq_true, am_ne_1_0, Int32.reduceLT, Int32.reduceLE]
  exact h
theorem am_op_mask_big_full (I : am_I M st mk ex sd fd pn fk fa) (K : am_K b M st fd fk fa ho aq rl) (ht : t < M) (hN : N ≤ 64) (hp : p < N) (hpc : pc t = nI p) (hop : co p = 12) (hz : ¬ ca p < 0) (ha : 2 < ca p) (hf : fd t = 8) : am_Out (b + 1) C Z N M co ca (fun post => wpX_execute post (nI C, nI Z, nI N, nI M, co, ca, st, pc, mk, ex, sd, fd, pn, sk, fk, fa, fs, pd, ho, aq, rl) (nI t)) := by
  have hM := I.1
  have qa : ¬ ca p ≤ 2 := Int32.not_le.mpr ha
  have qb : 0 ≤ ca p := Int32.not_lt.mp hz
  obtain ⟨st', pc', mk', ex', sd', fd', pn', sk', fk', fa', fs', pd', ho', aq', rl', hI', hK', hX'⟩ := am_raise (C := C) (Z := Z) (N := N) (co := co) (ca := ca) (pc := (upd pc t (nI (p + 1)))) (sk := sk) (fs := fs) (pd := pd) (e := (-3)) I (am_K_s K hM) ht
  refine ⟨st', pc', mk', ex', sd', fd', pn', sk', fk', fa', fs', pd', ho', aq', rl', hI', hK', fun post h => ?_⟩
  simp (disch := omega) only [wpX_execute, wpX_enterMask, wpX_clamp, wpX_pushFrame, hpc, hop, am_ne_12_1, am_ne_12_2, am_ne_12_3, am_ne_12_4, am_ne_12_5, am_ne_12_6, am_ne_12_7, am_ne_12_8, am_ne_12_9, am_ne_12_10, am_ne_12_11, ha, hz, qa, qb, hf, nI_clamp, pk_us, am_uu, nI_1, nI_pred, am_ip, nI_add, am_m8, am_m4, vp_in_nI, true_and, and_true, forall_eq, true_implies, false_implies, not_true_eq_false, not_false_eq_true, am_ne_1_0, Int32.reduceLT, Int32.reduceLE]
  exact hX' _ h
theorem am_op_mask_big (I : am_I M st mk ex sd fd pn fk fa) (K : am_K b M st fd fk fa ho aq rl) (ht : t < M) (hN : N ≤ 64) (hp : p < N) (hpc : pc t = nI p) (hop : co p = 12) (hz : ¬ ca p < 0) (ha : 2 < ca p) (hf : fd t = nI d) (hd : d < 8) : am_Out (b + 1) C Z N M co ca (fun post => wpX_execute post (nI C, nI Z, nI N, nI M, co, ca, st, pc, mk, ex, sd, fd, pn, sk, fk, fa, fs, pd, ho, aq, rl) (nI t)) := by
  have hM := I.1
  have qa : ¬ ca p ≤ 2 := Int32.not_le.mpr ha
  have qb : 0 ≤ ca p := Int32.not_lt.mp hz
  have q8 : ¬ nI (d) = 8 := fun q => by rw [am_eq8 (by omega)] at q; omega
  have K1 := am_K_s K hM
  refine ⟨st, (upd pc t (nI (p + 1))), (upd mk t 2), ex, sd, (upd fd t (nI (d + 1))), pn, sk, (upd fk (t * 8 + d) 2), (upd fa (t * 8 + d) 2), (upd fs (t * 8 + d) (mk t)), pd, ho, aq, rl, (am_I_mk (am_I_fr (am_I_fd (d := d + 1) I ht (by omega)) (fun q => absurd q (by decide))) ht), (am_K_pf K1 hM (by omega) hd hf (by decide)), fun post h => ?_⟩
  simp (disch := omega) only [wpX_execute, wpX_enterMask, wpX_clamp, wpX_pushFrame, hpc, hop, am_ne_12_1, am_ne_12_2, am_ne_12_3, am_ne_12_4, am_ne_12_5, am_ne_12_6, am_ne_12_7, am_ne_12_8, am_ne_12_9, am_ne_12_10, am_ne_12_11, ha, hz, qa, qb, hf, q8, nI_clamp, pk_us, am_uu, nI_1, nI_pred, am_ip, nI_add, am_m8, am_m4, vp_in_nI, true_and, and_true, forall_eq, true_implies, false_implies, not_true_eq_false, not_false_eq_true, am_ne_1_0, Int32.reduceLT, Int32.reduceLE]
  exact h
theorem am_op_mask_mid_full (I : am_I M st mk ex sd fd pn fk fa) (K : am_K b M st fd fk fa ho aq rl) (ht : t < M) (hN : N ≤ 64) (hp : p < N) (hpc : pc t = nI p) (hop : co p = 12) (hz : ¬ ca p < 0) (ha : ca p ≤ 2) (hf : fd t = 8) : am_Out (b + 1) C Z N M co ca (fun post => wpX_execute post (nI C, nI Z, nI N, nI M, co, ca, st, pc, mk, ex, sd, fd, pn, sk, fk, fa, fs, pd, ho, aq, rl) (nI t)) := by
  have hM := I.1
  have qa : ¬ 2 < ca p := Int32.not_lt.mpr ha
  have qb : 0 ≤ ca p := Int32.not_lt.mp hz
  obtain ⟨st', pc', mk', ex', sd', fd', pn', sk', fk', fa', fs', pd', ho', aq', rl', hI', hK', hX'⟩ := am_raise (C := C) (Z := Z) (N := N) (co := co) (ca := ca) (pc := (upd pc t (nI (p + 1)))) (sk := sk) (fs := fs) (pd := pd) (e := (-3)) I (am_K_s K hM) ht
  refine ⟨st', pc', mk', ex', sd', fd', pn', sk', fk', fa', fs', pd', ho', aq', rl', hI', hK', fun post h => ?_⟩
  simp (disch := omega) only [wpX_execute, wpX_enterMask, wpX_clamp, wpX_pushFrame, hpc, hop, am_ne_12_1, am_ne_12_2, am_ne_12_3, am_ne_12_4, am_ne_12_5, am_ne_12_6, am_ne_12_7, am_ne_12_8, am_ne_12_9, am_ne_12_10, am_ne_12_11, ha, hz, qa, qb, hf, nI_clamp, pk_us, am_uu, nI_1, nI_pred, am_ip, nI_add, am_m8, am_m4, vp_in_nI, true_and, and_true, forall_eq, true_implies, false_implies, not_true_eq_false, not_false_eq_true, am_ne_1_0, Int32.reduceLT, Int32.reduceLE]
  exact hX' _ h
theorem am_op_mask_mid (I : am_I M st mk ex sd fd pn fk fa) (K : am_K b M st fd fk fa ho aq rl) (ht : t < M) (hN : N ≤ 64) (hp : p < N) (hpc : pc t = nI p) (hop : co p = 12) (hz : ¬ ca p < 0) (ha : ca p ≤ 2) (hf : fd t = nI d) (hd : d < 8) : am_Out (b + 1) C Z N M co ca (fun post => wpX_execute post (nI C, nI Z, nI N, nI M, co, ca, st, pc, mk, ex, sd, fd, pn, sk, fk, fa, fs, pd, ho, aq, rl) (nI t)) := by
  have hM := I.1
  have qa : ¬ 2 < ca p := Int32.not_lt.mpr ha
  have qb : 0 ≤ ca p := Int32.not_lt.mp hz
  have q8 : ¬ nI (d) = 8 := fun q => by rw [am_eq8 (by omega)] at q; omega
  have K1 := am_K_s K hM
  refine ⟨st, (upd pc t (nI (p + 1))), (upd mk t (ca p)), ex, sd, (upd fd t (nI (d + 1))), pn, sk, (upd fk (t * 8 + d) 2), (upd fa (t * 8 + d) (ca p)), (upd fs (t * 8 + d) (mk t)), pd, ho, aq, rl, (am_I_mk (am_I_fr (am_I_fd (d := d + 1) I ht (by omega)) (fun q => absurd q (by decide))) ht), (am_K_pf K1 hM (by omega) hd hf (by decide)), fun post h => ?_⟩
  simp (disch := omega) only [wpX_execute, wpX_enterMask, wpX_clamp, wpX_pushFrame, hpc, hop, am_ne_12_1, am_ne_12_2, am_ne_12_3, am_ne_12_4, am_ne_12_5, am_ne_12_6, am_ne_12_7, am_ne_12_8, am_ne_12_9, am_ne_12_10, am_ne_12_11, ha, hz, qa, qb, hf, q8, nI_clamp, pk_us, am_uu, nI_1, nI_pred, am_ip, nI_add, am_m8, am_m4, vp_in_nI, true_and, and_true, forall_eq, true_implies, false_implies, not_true_eq_false, not_false_eq_true, am_ne_1_0, Int32.reduceLT, Int32.reduceLE]
  exact h
theorem am_op_end_0 (I : am_I M st mk ex sd fd pn fk fa) (K : am_K b M st fd fk fa ho aq rl) (ht : t < M) (hN : N ≤ 64) (hp : p < N) (hpc : pc t = nI p) (hop : co p = 13) (hf : fd t = 0) : am_Out (b + 1) C Z N M co ca (fun post => wpX_execute post (nI C, nI Z, nI N, nI M, co, ca, st, pc, mk, ex, sd, fd, pn, sk, fk, fa, fs, pd, ho, aq, rl) (nI t)) := by
  have hM := I.1
  obtain ⟨st', pc', mk', ex', sd', fd', pn', sk', fk', fa', fs', pd', ho', aq', rl', hI', hK', hX'⟩ := am_raise (C := C) (Z := Z) (N := N) (co := co) (ca := ca) (pc := (upd pc t (nI (p + 1)))) (sk := sk) (fs := fs) (pd := pd) (e := (-3)) I (am_K_s K hM) ht
  refine ⟨st', pc', mk', ex', sd', fd', pn', sk', fk', fa', fs', pd', ho', aq', rl', hI', hK', fun post h => ?_⟩
  simp (disch := omega) only [wpX_execute, wpX_endFrame, hpc, hop, am_ne_13_1, am_ne_13_2, am_ne_13_3, am_ne_13_4, am_ne_13_5, am_ne_13_6, am_ne_13_7, am_ne_13_8, am_ne_13_9, am_ne_13_10, am_ne_13_11, am_ne_13_12, hf, nI_clamp, pk_us, am_uu, nI_1, nI_pred, am_ip, nI_add, am_m8, am_m4, vp_in_nI, true_and, and_true, forall_eq, true_implies, false_implies, not_true_eq_false, not_false_eq_true, am_ne_1_0, Int32.reduceLT, Int32.reduceLE]
  exact hX' _ h
theorem am_op_end (I : am_I M st mk ex sd fd pn fk fa) (K : am_K b M st fd fk fa ho aq rl) (ht : t < M) (hN : N ≤ 64) (hp : p < N) (hpc : pc t = nI p) (hop : co p = 13) (hf : fd t = nI (d + 1)) (hd : d < 8) : am_Out (b + 1) C Z N M co ca (fun post => wpX_execute post (nI C, nI Z, nI N, nI M, co, ca, st, pc, mk, ex, sd, fd, pn, sk, fk, fa, fs, pd, ho, aq, rl) (nI t)) := by
  have hM := I.1
  have hF := I.2.2.2.2.1
  have q0 : ¬ nI (d + 1) = 0 := fun q => by rw [am_eq0 (by omega)] at q; omega
  refine ⟨st, (upd pc t (nI (p + 1))), (upd mk t (fs (t * 8 + d))), ex, sd, (upd fd t (nI d)), pn, sk, fk, fa, fs, pd, (am_ho fk fa ho (t * 8 + d)), aq, (am_rl fk fa rl (t * 8 + d)), am_I_fd (am_I_mk I ht) ht (by omega), am_K_pop (am_K_s K hM) hF hM (by omega) hd hf, fun post h => ?_⟩
  · simp (disch := omega) only [wpX_execute, wpX_endFrame, hpc, hop, hf, q0, am_ne_13_1, am_ne_13_2, am_ne_13_3, am_ne_13_4, am_ne_13_5, am_ne_13_6, am_ne_13_7, am_ne_13_8, am_ne_13_9, am_ne_13_10, am_ne_13_11, am_ne_13_12, nI_clamp, pk_us, am_uu, nI_1, nI_pred, am_ip, nI_add, am_m8, am_m4, vp_in_nI, true_and, and_true, forall_eq, true_implies, false_implies, not_true_eq_false, not_false_eq_true, am_ne_1_0, Int32.reduceLT, Int32.reduceLE]
    exact am_X_pop hF (by omega) hd hf h
theorem am_op_halt (I : am_I M st mk ex sd fd pn fk fa) (K : am_K b M st fd fk fa ho aq rl) (ht : t < M) (hN : N ≤ 64) (hp : p < N) (hpc : pc t = nI p) (ha : st t = 1) (hop : co p = 15) : am_Out (b + 1) C Z N M co ca (fun post => wpX_execute post (nI C, nI Z, nI N, nI M, co, ca, st, pc, mk, ex, sd, fd, pn, sk, fk, fa, fs, pd, ho, aq, rl) (nI t)) := by
  have hM := I.1
  obtain ⟨d, hd, hf⟩ := I.2.2.1 t
  obtain ⟨st', pc', mk', ex', sd', fd', pn', sk', fk', fa', fs', pd', ho', aq', rl', hI', hK', hX'⟩ := am_ha (C := C) (Z := Z) (N := N) (co := co) (ca := ca) (pc := upd pc t (nI (p + 1))) (sk := sk) (fs := fs) (pd := pd) ht (I.2.2.2.2.2.1 t ha) d mk fd ho rl hd hf I (am_K_s K hM)
  refine ⟨st', pc', mk', ex', sd', fd', pn', sk', fk', fa', fs', pd', ho', aq', rl', hI', hK', fun post h => ?_⟩
  · simp (disch := omega) only [wpX_execute, wpX_halt, hpc, hop, hf, am_ne_15_1, am_ne_15_2, am_ne_15_3, am_ne_15_4, am_ne_15_5, am_ne_15_6, am_ne_15_7, am_ne_15_8, am_ne_15_9, am_ne_15_10, am_ne_15_11, am_ne_15_12, am_ne_15_13, am_ne_15_14, nI_clamp, pk_us, am_uu, nI_1, nI_pred, am_ip, nI_add, am_m8, am_m4, vp_in_nI, true_and, and_true, forall_eq, true_implies, false_implies, not_true_eq_false, not_false_eq_true, am_ne_1_0, Int32.reduceLT, Int32.reduceLE]
    exact ⟨d + 1, hX' _ h (d + 1) (by omega)⟩
theorem am_op_lo (I : am_I M st mk ex sd fd pn fk fa) (K : am_K b M st fd fk fa ho aq rl) (ht : t < M) (hN : N ≤ 64) (hp : p < N) (hpc : pc t = nI p) (hop : co p < 1) : am_Out (b + 1) C Z N M co ca (fun post => wpX_execute post (nI C, nI Z, nI N, nI M, co, ca, st, pc, mk, ex, sd, fd, pn, sk, fk, fa, fs, pd, ho, aq, rl) (nI t)) := by
  have hM := I.1
  refine ⟨st, (upd pc t (nI (p + 1))), mk, ex, sd, fd, pn, sk, fk, fa, fs, pd, ho, aq, rl, I, am_K_s K hM, fun post h => ?_⟩
  · simp (disch := omega) only [wpX_execute, hpc, hop, nI_clamp, pk_us, am_uu, nI_1, nI_pred, am_ip, nI_add, am_m8, am_m4, vp_in_nI, true_and, and_true, forall_eq, true_implies, false_implies, not_true_eq_false, not_false_eq_true, am_ne_1_0, Int32.reduceLT, Int32.reduceLE]
    exact h
theorem am_op_hi (I : am_I M st mk ex sd fd pn fk fa) (K : am_K b M st fd fk fa ho aq rl) (ht : t < M) (hN : N ≤ 64) (hp : p < N) (hpc : pc t = nI p) (hlo : ¬ co p < 1) (hop : 15 < co p) : am_Out (b + 1) C Z N M co ca (fun post => wpX_execute post (nI C, nI Z, nI N, nI M, co, ca, st, pc, mk, ex, sd, fd, pn, sk, fk, fa, fs, pd, ho, aq, rl) (nI t)) := by
  have hM := I.1
  refine ⟨st, (upd pc t (nI (p + 1))), mk, ex, sd, fd, pn, sk, fk, fa, fs, pd, ho, aq, rl, I, am_K_s K hM, fun post h => ?_⟩
  · simp (disch := omega) only [wpX_execute, hpc, hop, hlo, nI_clamp, pk_us, am_uu, nI_1, nI_pred, am_ip, nI_add, am_m8, am_m4, vp_in_nI, true_and, and_true, forall_eq, true_implies, false_implies, not_true_eq_false, not_false_eq_true, am_ne_1_0, Int32.reduceLT, Int32.reduceLE]
    exact h
theorem am_op_br_neg (I : am_I M st mk ex sd fd pn fk fa) (K : am_K b M st fd fk fa ho aq rl) (ht : t < M) (hN : N ≤ 64) (hp : p < N) (hpc : pc t = nI p) (hop : co p = 14) (ha : ca p < 0) : am_Out (b + 1) C Z N M co ca (fun post => wpX_execute post (nI C, nI Z, nI N, nI M, co, ca, st, pc, mk, ex, sd, fd, pn, sk, fk, fa, fs, pd, ho, aq, rl) (nI t)) := by
  have hM := I.1
  obtain ⟨st', pc', mk', ex', sd', fd', pn', sk', fk', fa', fs', pd', ho', aq', rl', hI', hK', hX'⟩ := am_raise (C := C) (Z := Z) (N := N) (co := co) (ca := ca) (pc := (upd pc t (nI (p + 1)))) (sk := sk) (fs := fs) (pd := pd) (e := (-4)) I (am_K_s K hM) ht
  refine ⟨st', pc', mk', ex', sd', fd', pn', sk', fk', fa', fs', pd', ho', aq', rl', hI', hK', fun post h => ?_⟩
  simp (disch := omega) only [wpX_execute, wpX_enterBracket, wpX_isResource, hpc, hop, am_ne_14_1, am_ne_14_2, am_ne_14_3, am_ne_14_4, am_ne_14_5, am_ne_14_6, am_ne_14_7, am_ne_14_8, am_ne_14_9, am_ne_14_10, am_ne_14_11, am_ne_14_12, am_ne_14_13, ha, nI_clamp, pk_us, am_uu, nI_1, nI_pred, am_ip, nI_add, am_m8, am_m4, vp_in_nI, true_and, and_true, forall_eq, true_implies, false_implies, not_true_eq_false, not_false_eq_true, am_ne_1_0, Int32.reduceLT, Int32.reduceLE]
  exact hX' _ h
theorem am_op_br_big (I : am_I M st mk ex sd fd pn fk fa) (K : am_K b M st fd fk fa ho aq rl) (ht : t < M) (hN : N ≤ 64) (hp : p < N) (hpc : pc t = nI p) (hop : co p = 14) (hz : ¬ ca p < 0) (ha : 8 ≤ ca p) : am_Out (b + 1) C Z N M co ca (fun post => wpX_execute post (nI C, nI Z, nI N, nI M, co, ca, st, pc, mk, ex, sd, fd, pn, sk, fk, fa, fs, pd, ho, aq, rl) (nI t)) := by
  have hM := I.1
  have qa : ¬ ca p < 8 := Int32.not_lt.mpr ha
  have qb : 0 ≤ ca p := Int32.not_lt.mp hz
  have qc : ¬ ca p ≤ 7 := Int32.not_le.mpr (Int32.lt_of_lt_of_le (by decide) ha)
  obtain ⟨st', pc', mk', ex', sd', fd', pn', sk', fk', fa', fs', pd', ho', aq', rl', hI', hK', hX'⟩ := am_raise (C := C) (Z := Z) (N := N) (co := co) (ca := ca) (pc := (upd pc t (nI (p + 1)))) (sk := sk) (fs := fs) (pd := pd) (e := (-4)) I (am_K_s K hM) ht
  refine ⟨st', pc', mk', ex', sd', fd', pn', sk', fk', fa', fs', pd', ho', aq', rl', hI', hK', fun post h => ?_⟩
  simp (disch := omega) only [wpX_execute, wpX_enterBracket, wpX_isResource, hpc, hop, am_ne_14_1, am_ne_14_2, am_ne_14_3, am_ne_14_4, am_ne_14_5, am_ne_14_6, am_ne_14_7, am_ne_14_8, am_ne_14_9, am_ne_14_10, am_ne_14_11, am_ne_14_12, am_ne_14_13, ha, hz, qc, nI_clamp, pk_us, am_uu, nI_1, nI_pred, am_ip, nI_add, am_m8, am_m4, vp_in_nI, true_and, and_true, forall_eq, true_implies, false_implies, not_true_eq_false, not_false_eq_true, am_ne_1_0, Int32.reduceLT, Int32.reduceLE]
  exact hX' _ h
theorem am_op_br_full (I : am_I M st mk ex sd fd pn fk fa) (K : am_K b M st fd fk fa ho aq rl) (ht : t < M) (hN : N ≤ 64) (hp : p < N) (hpc : pc t = nI p) (hop : co p = 14) {r : Nat} (hr : r < 8) (ha : ca p = nI r) (hf : fd t = 8) : am_Out (b + 1) C Z N M co ca (fun post => wpX_execute post (nI C, nI Z, nI N, nI M, co, ca, st, pc, mk, ex, sd, fd, pn, sk, fk, fa, fs, pd, ho, aq, rl) (nI t)) := by
  have hM := I.1
  have qx : ¬ nI r < 0 := nI_pos (by omega)
  have qy : 0 ≤ nI r := nI_pos' (by omega)
  have qz : nI r < 8 := nI_lt (b := 8) hr (by omega)
  have qw : ¬ 8 ≤ nI r := nI_ge (b := 8) hr (by omega)
  have qv : nI r ≤ 7 := nI_le (b := 7) (by omega) (by omega)
  obtain ⟨st', pc', mk', ex', sd', fd', pn', sk', fk', fa', fs', pd', ho', aq', rl', hI', hK', hX'⟩ := am_raise (C := C) (Z := Z) (N := N) (co := co) (ca := ca) (pc := (upd pc t (nI (p + 1)))) (sk := sk) (fs := fs) (pd := pd) (e := (-3)) I (am_K_s K hM) ht
  refine ⟨st', pc', mk', ex', sd', fd', pn', sk', fk', fa', fs', pd', ho', aq', rl', hI', hK', fun post h => ?_⟩
  simp (disch := omega) only [wpX_execute, wpX_enterBracket, wpX_isResource, wpX_pushFrame, hpc, hop, am_ne_14_1, am_ne_14_2, am_ne_14_3, am_ne_14_4, am_ne_14_5, am_ne_14_6, am_ne_14_7, am_ne_14_8, am_ne_14_9, am_ne_14_10, am_ne_14_11, am_ne_14_12, am_ne_14_13, ha, qx, qw, qv, hf, nI_clamp, pk_us, am_uu, nI_1, nI_pred, am_ip, nI_add, am_m8, am_m4, vp_in_nI, true_and, and_true, forall_eq, true_implies, false_implies, not_true_eq_false, not_false_eq_true, am_ne_1_0, Int32.reduceLT, Int32.reduceLE]
  exact hX' _ h
theorem am_op_br (I : am_I M st mk ex sd fd pn fk fa) (K : am_K b M st fd fk fa ho aq rl) (ht : t < M) (hN : N ≤ 64) (hp : p < N) (hpc : pc t = nI p) (hop : co p = 14) {r : Nat} (hr : r < 8) (ha : ca p = nI r) (hf : fd t = nI d) (hd : d < 8) (hfree : ho r = -1) (hst : st t = 1) : am_Out (b + 1) C Z N M co ca (fun post => wpX_execute post (nI C, nI Z, nI N, nI M, co, ca, st, pc, mk, ex, sd, fd, pn, sk, fk, fa, fs, pd, ho, aq, rl) (nI t)) := by
  have hM := I.1
  have qx : ¬ nI r < 0 := nI_pos (by omega)
  have qy : 0 ≤ nI r := nI_pos' (by omega)
  have qz : nI r < 8 := nI_lt (b := 8) hr (by omega)
  have qw : ¬ 8 ≤ nI r := nI_ge (b := 8) hr (by omega)
  have qv : nI r ≤ 7 := nI_le (b := 7) (by omega) (by omega)
  have q8 : ¬ nI (d) = 8 := fun q => by rw [am_eq8 (by omega)] at q; omega
  have K1 := am_K_s K hM
  refine ⟨st, (upd pc t (nI (p + 1))), mk, ex, sd, (upd fd t (nI (d + 1))), pn, sk, (upd fk (t * 8 + d) 3), (upd fa (t * 8 + d) (nI r)), (upd fs (t * 8 + d) (mk t)), pd, (upd ho r (nI t)), (upd aq r (aq r + 1)), rl, (am_I_fr (am_I_fd (d := d + 1) I ht (by omega)) (fun _ => ⟨r, hr, rfl⟩)), (am_K_br K hM ht hd hf hr hfree hst), fun post h => ?_⟩
  simp (disch := omega) only [wpX_execute, wpX_enterBracket, wpX_isResource, wpX_pushFrame, hpc, hop, am_ne_14_1, am_ne_14_2, am_ne_14_3, am_ne_14_4, am_ne_14_5, am_ne_14_6, am_ne_14_7, am_ne_14_8, am_ne_14_9, am_ne_14_10, am_ne_14_11, am_ne_14_12, am_ne_14_13, ha, qx, qw, qv, hf, q8, nI_clamp, pk_us, am_uu, nI_1, nI_pred, am_ip, nI_add, am_m8, am_m4, vp_in_nI, true_and, and_true, forall_eq, true_implies, false_implies, not_true_eq_false, not_false_eq_true, am_ne_1_0, Int32.reduceLT, Int32.reduceLE]
  exact h
end
