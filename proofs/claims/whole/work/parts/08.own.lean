def i_Rel (_ : Nat) (u : SX) (v : SY) : Prop := ∃ (C Z N M : Nat) (co ca st pc mk ex sd fd pn sk fk fa fs pX pY ho aq rl : Nat → Int32), u = (nI C, nI Z, nI N, nI M, co, ca, st, pc, mk, ex, sd, fd, pn, sk, fk, fa, fs, pX, ho, aq, rl) ∧ v = (nI C, nI Z, nI N, nI M, co, ca, st, pc, mk, ex, sd, fd, pn, sk, fk, fa, fs, pY, ho, aq, rl) ∧ C ≤ 4 ∧ Z ≤ 64 ∧ N ≤ Z ∧ M ≤ C ∧ am_I M st mk ex sd fd pn fk fa ∧ am_P pn pX pY
theorem i_up {k : Nat} {u : SX} {v : SY} (h : i_Rel k u v) : i_Rel (k + 4) u v := h
theorem am_no2 {Q : Prop} (x : Int32) (g0 : ¬ x < 0) (g1 : ¬ 2 < x) (f0 : ¬ x = 0) (f1 : ¬ x = 1) (f2 : ¬ x = 2) : Q := by
  obtain ⟨j, hj, rfl⟩ := nI_of2 (M := 2) (n := 2) (by decide) g0 (Int32.not_lt.mp g1)
  have h0 : j ≠ 0 := fun e => f0 (by rw [e]; rfl)
  have h1 : j ≠ 1 := fun e => f1 (by rw [e]; rfl)
  have h2 : j ≠ 2 := fun e => f2 (by rw [e]; rfl)
  omega
theorem am_no7 {Q : Prop} (x : Int32) (g0 : ¬ x < 0) (g1 : ¬ 7 < x) (f0 : ¬ x = 0) (f1 : ¬ x = 1) (f2 : ¬ x = 2) (f3 : ¬ x = 3) (f4 : ¬ x = 4) (f5 : ¬ x = 5) (f6 : ¬ x = 6) (f7 : ¬ x = 7) : Q := by
  obtain ⟨j, hj, rfl⟩ := nI_of2 (M := 7) (n := 7) (by decide) g0 (Int32.not_lt.mp g1)
  have h0 : j ≠ 0 := fun e => f0 (by rw [e]; rfl)
  have h1 : j ≠ 1 := fun e => f1 (by rw [e]; rfl)
  have h2 : j ≠ 2 := fun e => f2 (by rw [e]; rfl)
  have h3 : j ≠ 3 := fun e => f3 (by rw [e]; rfl)
  have h4 : j ≠ 4 := fun e => f4 (by rw [e]; rfl)
  have h5 : j ≠ 5 := fun e => f5 (by rw [e]; rfl)
  have h6 : j ≠ 6 := fun e => f6 (by rw [e]; rfl)
  have h7 : j ≠ 7 := fun e => f7 (by rw [e]; rfl)
  omega
def am_h : Nat → Nat → Int32
  | 0 => fun _ => 0
  | i + 1 => upd (am_h i) i (-1)
theorem am_X_ini {a b : Int32} {post : SX → Prop} (h : post (a, b, 0, 0, (fun _ => 0), (fun _ => 0), (fun _ => 0), (fun _ => 0), (fun _ => 0), (fun _ => 0), (fun _ => 0), (fun _ => 0), (fun _ => 0), (fun _ => 0), (fun _ => 0), (fun _ => 0), (fun _ => 0), (fun _ => 0), am_h 8, (fun _ => 0), (fun _ => 0))) : ∀ m i f, i + m = 8 → m < f → wX_init_167 post a b 0 0 f (nI i) (fun _ => 0) (fun _ => 0) (fun _ => 0) (fun _ => 0) (fun _ => 0) (fun _ => 0) (fun _ => 0) (fun _ => 0) (fun _ => 0) (fun _ => 0) (fun _ => 0) (fun _ => 0) (fun _ => 0) (fun _ => 0) (am_h i) (fun _ => 0) (fun _ => 0) := by
  intro m
  induction m with
  | zero =>
    intro i f hi hf
    obtain ⟨f, rfl⟩ : ∃ g, f = g + 1 := ⟨f - 1, by omega⟩
    obtain rfl : i = 8 := by omega
    rw [wX_init_167]
    exact br_t (by decide) h
  | succ m ih =>
    intro i f hi hf
    obtain ⟨f, rfl⟩ : ∃ g, f = g + 1 := ⟨f - 1, by omega⟩
    rw [wX_init_167]
    refine br_f (nI_ge (b := 8) (by omega) (by omega)) ?_
    simp (disch := omega) only [nI_clamp, pk_us, am_uu, nI_1, nI_pred, am_ip, nI_add, am_m8, am_m4, vp_in_nI, true_and, and_true, forall_eq, true_implies, false_implies, not_true_eq_false, not_false_eq_true, am_ne_1_0, Int32.reduceLT, Int32.reduceLE]
    exact ih (i + 1) f (by omega) (by omega)
theorem am_Y_ini {a b : Int32} {post : SY → Prop} (h : post (a, b, 0, 0, (fun _ => 0), (fun _ => 0), (fun _ => 0), (fun _ => 0), (fun _ => 0), (fun _ => 0), (fun _ => 0), (fun _ => 0), (fun _ => 0), (fun _ => 0), (fun _ => 0), (fun _ => 0), (fun _ => 0), (fun _ => 0), am_h 8, (fun _ => 0), (fun _ => 0))) : ∀ m i f, i + m = 8 → m < f → wY_init_185 post a b 0 0 f (nI i) (fun _ => 0) (fun _ => 0) (fun _ => 0) (fun _ => 0) (fun _ => 0) (fun _ => 0) (fun _ => 0) (fun _ => 0) (fun _ => 0) (fun _ => 0) (fun _ => 0) (fun _ => 0) (fun _ => 0) (fun _ => 0) (am_h i) (fun _ => 0) (fun _ => 0) := by
  intro m
  induction m with
  | zero =>
    intro i f hi hf
    obtain ⟨f, rfl⟩ : ∃ g, f = g + 1 := ⟨f - 1, by omega⟩
    obtain rfl : i = 8 := by omega
    rw [wY_init_185]
    exact br_t (by decide) h
  | succ m ih =>
    intro i f hi hf
    obtain ⟨f, rfl⟩ : ∃ g, f = g + 1 := ⟨f - 1, by omega⟩
    rw [wY_init_185]
    refine br_f (nI_ge (b := 8) (by omega) (by omega)) ?_
    simp (disch := omega) only [nI_clamp, pk_us, am_uu, nI_1, nI_pred, am_ip, nI_add, am_m8, am_m4, vp_in_nI, true_and, and_true, forall_eq, true_implies, false_implies, not_true_eq_false, not_false_eq_true, am_ne_1_0, Int32.reduceLT, Int32.reduceLE]
    exact ih (i + 1) f (by omega) (by omega)
theorem am_ini {a b : Int32} {c z : Nat} (ha : a = nI c) (hb : b = nI z) (hc : c ≤ 4) (hz : z ≤ 64) : i_Rel 2 (a, b, 0, 0, (fun _ => 0), (fun _ => 0), (fun _ => 0), (fun _ => 0), (fun _ => 0), (fun _ => 0), (fun _ => 0), (fun _ => 0), (fun _ => 0), (fun _ => 0), (fun _ => 0), (fun _ => 0), (fun _ => 0), (fun _ => 0), am_h 8, (fun _ => 0), (fun _ => 0)) (a, b, 0, 0, (fun _ => 0), (fun _ => 0), (fun _ => 0), (fun _ => 0), (fun _ => 0), (fun _ => 0), (fun _ => 0), (fun _ => 0), (fun _ => 0), (fun _ => 0), (fun _ => 0), (fun _ => 0), (fun _ => 0), (fun _ => 0), am_h 8, (fun _ => 0), (fun _ => 0)) := by
  subst ha hb
  refine ⟨c, z, 0, 0, _, _, _, _, _, _, _, _, _, _, _, _, _, _, _, _, _, _, rfl, rfl, hc, hz, by omega, by omega, ⟨by omega, fun _ => ⟨0, by omega, rfl⟩, fun _ => ⟨0, by omega, rfl⟩, fun _ => ⟨0, by omega, rfl⟩, fun j hj => ?_, fun _ _ => rfl, fun _ _ => rfl, fun _ _ => rfl, fun _ _ => rfl, fun _ _ => rfl, fun _ _ => rfl⟩, fun _ _ _ _ _ _ _ => rfl⟩
  exact absurd (show (0 : Int32) = 3 from hj) (by decide)
theorem am_cl {x a b : Int32} {m n : Nat} (ha : a = nI m) (hb : b = nI n) (hmn : m ≤ n) (hn : n < 2 ^ 31) : ∃ c : Nat, c ≤ n ∧ ((¬ a ≤ x ∧ nI c = a) ∨ (a ≤ x ∧ ¬ x ≤ b ∧ nI c = b) ∨ (a ≤ x ∧ x ≤ b ∧ nI c = x)) := by
  by_cases h : a ≤ x
  · by_cases g : x ≤ b
    · obtain ⟨j, hj, rfl⟩ := nI_of (x := x) (fun z => absurd (Int32.lt_of_le_of_lt h z) (by rw [ha]; exact nI_pos (by omega)))
      rw [hb, nI_leI hj hn] at g
      exact ⟨j, g, Or.inr (Or.inr ⟨h, by rw [hb]; exact nI_le g hn, rfl⟩)⟩
    · exact ⟨n, Nat.le_refl n, Or.inr (Or.inl ⟨h, g, hb.symm⟩)⟩
  · exact ⟨m, hmn, Or.inl ⟨h, ha.symm⟩⟩
theorem am_vX {x a b : Int32} {c : Nat} (h : (¬ a ≤ x ∧ nI c = a) ∨ (a ≤ x ∧ ¬ x ≤ b ∧ nI c = b) ∨ (a ≤ x ∧ x ≤ b ∧ nI c = x)) {post : Int32 → Prop} (hp : post (nI c)) : wpX_clamp post x a b := by
  rcases h with ⟨h1, h2⟩ | ⟨h1, h2, h3⟩ | ⟨h1, h2, h3⟩
  · exact br_f h1 (h2 ▸ hp)
  · exact br_t h1 (br_f h2 (h3 ▸ hp))
  · exact br_t h1 (br_t h2 (h3 ▸ hp))
theorem i_vc0 (k0 : Int32) (k1 : Int32) : wpX_init (fun u => wpY_init (fun v => i_Rel 2 u v) k0 k1) k0 k1 := by
  obtain ⟨c, hc, Hc⟩ := am_cl (x := k0) (a := 2) (b := 4) (m := 2) (n := 4) rfl rfl (by omega) (by omega)
  obtain ⟨z, hz, Hz⟩ := am_cl (x := k1) (a := 8) (b := 64) (m := 8) (n := 64) rfl rfl (by omega) (by omega)
  have R := am_ini (a := nI c) (b := nI z) rfl rfl hc hz
  have Y : wpY_init (fun v => i_Rel 2 (nI c, nI z, 0, 0, (fun _ => 0), (fun _ => 0), (fun _ => 0), (fun _ => 0), (fun _ => 0), (fun _ => 0), (fun _ => 0), (fun _ => 0), (fun _ => 0), (fun _ => 0), (fun _ => 0), (fun _ => 0), (fun _ => 0), (fun _ => 0), am_h 8, (fun _ => 0), (fun _ => 0)) v) k0 k1 := by
    have L := am_Y_ini R 8 0 9 (by omega) (by omega)
    have K : ∀ y : Int32, y = nI c → wY_init_153 (fun v => i_Rel 2 (nI c, nI z, 0, 0, (fun _ => 0), (fun _ => 0), (fun _ => 0), (fun _ => 0), (fun _ => 0), (fun _ => 0), (fun _ => 0), (fun _ => 0), (fun _ => 0), (fun _ => 0), (fun _ => 0), (fun _ => 0), (fun _ => 0), (fun _ => 0), am_h 8, (fun _ => 0), (fun _ => 0)) v) k1 y 0 0 0 0 (fun _ => 0) (fun _ => 0) (fun _ => 0) (fun _ => 0) (fun _ => 0) (fun _ => 0) (fun _ => 0) (fun _ => 0) (fun _ => 0) (fun _ => 0) (fun _ => 0) (fun _ => 0) (fun _ => 0) (fun _ => 0) (fun _ => 0) (fun _ => 0) (fun _ => 0) := by
      intro y ey
      subst ey
      rcases Hz with ⟨h1, h2⟩ | ⟨h1, h2, h3⟩ | ⟨h1, h2, h3⟩
      · exact br_f h1 ⟨9, h2 ▸ L⟩
      · exact br_t h1 (br_f h2 ⟨9, h3 ▸ L⟩)
      · exact br_t h1 (br_t h2 ⟨9, h3 ▸ L⟩)
    rcases Hc with ⟨h1, h2⟩ | ⟨h1, h2, h3⟩ | ⟨h1, h2, h3⟩
    · exact br_f h1 (K _ h2.symm)
    · exact br_t h1 (br_f h2 (K _ h3.symm))
    · exact br_t h1 (br_t h2 (K _ h3.symm))
  unfold wpX_init
  refine am_vX Hc (am_vX Hz ⟨9, ?_⟩)
  exact am_X_ini Y 8 0 9 (by omega) (by omega)
theorem i_vc_load {k : Nat} {u : SX} {v : SY} (I : i_Rel k u v) (hk : k + 4 ≤ 2050) (v1 : Int32) (v2 : Int32) : wpX_load (fun r u' => wpY_load (fun r' v' => r' = r ∧ i_Rel (k + 4) u' v') v v1 v2) u v1 v2 := by
  obtain ⟨C, Z, N, M, co, ca, st, pc, mk, ex, sd, fd, pn, sk, fk, fa, fs, pX, pY, ho, aq, rl, rfl, rfl, hC, hZ, hN, hM, I, P⟩ := I
  have R : i_Rel (k + 4) (nI C, nI Z, nI N, nI M, co, ca, st, pc, mk, ex, sd, fd, pn, sk, fk, fa, fs, pX, ho, aq, rl) (nI C, nI Z, nI N, nI M, co, ca, st, pc, mk, ex, sd, fd, pn, sk, fk, fa, fs, pY, ho, aq, rl) := ⟨C, Z, N, M, co, ca, st, pc, mk, ex, sd, fd, pn, sk, fk, fa, fs, pX, pY, ho, aq, rl, rfl, rfl, hC, hZ, hN, hM, I, P⟩
  by_cases e : N = Z
  · subst e
    exact br_t rfl (br_t rfl ⟨rfl, R⟩)
  have e1 : ¬ nI N = nI Z := fun q => e ((nI_eq (by omega) (by omega)).mp q)
  by_cases h0 : v1 < 0
  · exact br_f e1 (br_t h0 (br_f e1 (br_t h0 ⟨rfl, R⟩)))
  by_cases h1 : v1 ≤ 15
  · have hi : vp_in (nI N) 64 := vp_in_nI (by omega) (by omega)
    refine br_f e1 (br_f h0 (br_t h1 ⟨hi, nm_e ⟨hi, nm_e (nm_r (nI_1 N) ?_)⟩⟩))
    refine br_f e1 (br_f h0 (br_t h1 ⟨hi, nm_e ⟨hi, nm_e (nm_r (nI_1 N) ⟨rfl, ?_⟩)⟩⟩))
    exact ⟨C, Z, N + 1, M, _, _, st, pc, mk, ex, sd, fd, pn, sk, fk, fa, fs, pX, pY, ho, aq, rl, rfl, rfl, hC, hZ, by omega, hM, I, P⟩
  · exact br_f e1 (br_f h0 (br_f h1 (br_f e1 (br_f h0 (br_f h1 ⟨rfl, R⟩)))))
theorem i_vc_spawn {k : Nat} {u : SX} {v : SY} (I : i_Rel k u v) (hk : k + 4 ≤ 2050) (v1 : Int32) : wpX_spawn (fun r u' => wpY_spawn (fun r' v' => r' = r ∧ i_Rel (k + 4) u' v') v v1) u v1 := by
  obtain ⟨C, Z, N, M, co, ca, st, pc, mk, ex, sd, fd, pn, sk, fk, fa, fs, pX, pY, ho, aq, rl, rfl, rfl, hC, hZ, hN, hM, I, P⟩ := I
  have R : i_Rel (k + 4) (nI C, nI Z, nI N, nI M, co, ca, st, pc, mk, ex, sd, fd, pn, sk, fk, fa, fs, pX, ho, aq, rl) (nI C, nI Z, nI N, nI M, co, ca, st, pc, mk, ex, sd, fd, pn, sk, fk, fa, fs, pY, ho, aq, rl) := ⟨C, Z, N, M, co, ca, st, pc, mk, ex, sd, fd, pn, sk, fk, fa, fs, pX, pY, ho, aq, rl, rfl, rfl, hC, hZ, hN, hM, I, P⟩
  by_cases e : M = C
  · subst e
    exact br_t rfl (br_t rfl ⟨rfl, R⟩)
  have e1 : ¬ nI M = nI C := fun q => e ((nI_eq (by omega) (by omega)).mp q)
  have hi : vp_in (nI M) 4 := vp_in_nI (by omega) (by omega)
  have hz : ∀ {a : Nat → Int32}, am_Z M a → upd a M 0 = a := fun h => am_uk (h M (Nat.le_refl M))
  obtain ⟨h1, h2, h3, h4, h5, h6, h7, h8, h9, h10, h11⟩ := id I
  have J := am_I_sp I (by omega)
  have S1 : i_Rel (k + 4) (nI C, nI Z, nI N, nI (M + 1), co, ca, (upd st M 1), (upd pc M v1), mk, ex, sd, fd, pn, sk, fk, fa, fs, pX, ho, aq, rl) (nI C, nI Z, nI N, nI (M + 1), co, ca, (upd st M 1), (upd pc M v1), mk, ex, sd, fd, pn, sk, fk, fa, fs, pY, ho, aq, rl) := ⟨C, Z, N, M + 1, co, ca, (upd st M 1), (upd pc M v1), mk, ex, sd, fd, pn, sk, fk, fa, fs, pX, pY, ho, aq, rl, rfl, rfl, hC, hZ, hN, by omega, J, P⟩
  have Y : ∀ post : Int32 → SY → Prop, post (nI M) (nI C, nI Z, nI N, nI (M + 1), co, ca, (upd st M 1), (upd pc M v1), mk, ex, sd, fd, pn, sk, fk, fa, fs, pY, ho, aq, rl) → wpY_spawn post (nI C, nI Z, nI N, nI M, co, ca, st, pc, mk, ex, sd, fd, pn, sk, fk, fa, fs, pY, ho, aq, rl) v1 := by
    intro post h
    simp (disch := omega) only [wpY_spawn, e1, hz h7, hz h8, hz h9, hz h10, hz h11, nI_clamp, pk_us, am_uu, nI_1, nI_pred, am_ip, nI_add, am_m8, am_m4, vp_in_nI, true_and, and_true, forall_eq, true_implies, false_implies, not_true_eq_false, not_false_eq_true, am_ne_1_0, Int32.reduceLT, Int32.reduceLE]
    exact h
  have X : ∀ post : Int32 → SX → Prop, post (nI M) (nI C, nI Z, nI N, nI (M + 1), co, ca, (upd st M 1), (upd pc M v1), mk, ex, sd, fd, pn, sk, fk, fa, fs, pX, ho, aq, rl) → wpX_spawn post (nI C, nI Z, nI N, nI M, co, ca, st, pc, mk, ex, sd, fd, pn, sk, fk, fa, fs, pX, ho, aq, rl) v1 := by
    intro post h
    simp (disch := omega) only [wpX_spawn, e1, nI_clamp, pk_us, am_uu, nI_1, nI_pred, am_ip, nI_add, am_m8, am_m4, vp_in_nI, true_and, and_true, forall_eq, true_implies, false_implies, not_true_eq_false, not_false_eq_true, am_ne_1_0, Int32.reduceLT, Int32.reduceLE]
    exact h
  exact X _ (Y _ ⟨rfl, S1⟩)
theorem i_vc_step {k : Nat} {u : SX} {v : SY} (I : i_Rel k u v) (hk : k + 4 ≤ 2050) (v1 : Int32) : wpX_step (fun r u' => wpY_step (fun r' v' => r' = r ∧ i_Rel (k + 4) u' v') v v1) u v1 := by
  obtain ⟨C, Z, N, M, co, ca, st, pc, mk, ex, sd, fd, pn, sk, fk, fa, fs, pX, pY, ho, aq, rl, rfl, rfl, hC, hZ, hN, hM, I, P⟩ := I
  obtain ⟨r, st', pc', mk', ex', sd', fd', pn', sk', fk', fa', fs', pX', pY', ho', aq', rl', hI', hP', hX', hY'⟩ := am_step (C := C) (Z := Z) (N := N) (co := co) (ca := ca) (pc := pc) (sk := sk) (fs := fs) (ho := ho) (aq := aq) (rl := rl) I P (by omega) v1
  exact hX' _ (hY' _ ⟨rfl, C, Z, N, M, co, ca, st', pc', mk', ex', sd', fd', pn', sk', fk', fa', fs', pX', pY', ho', aq', rl', rfl, rfl, hC, hZ, hN, hM, hI', hP'⟩)
theorem i_vc_throwTo {k : Nat} {u : SX} {v : SY} (I : i_Rel k u v) (hk : k + 4 ≤ 2050) (v1 : Int32) (v2 : Int32) : wpX_throwTo (fun r u' => wpY_throwTo (fun r' v' => r' = r ∧ i_Rel (k + 4) u' v') v v1 v2) u v1 v2 := by
  obtain ⟨C, Z, N, M, co, ca, st, pc, mk, ex, sd, fd, pn, sk, fk, fa, fs, pX, pY, ho, aq, rl, rfl, rfl, hC, hZ, hN, hM, I, P⟩ := I
  have R : i_Rel (k + 4) (nI C, nI Z, nI N, nI M, co, ca, st, pc, mk, ex, sd, fd, pn, sk, fk, fa, fs, pX, ho, aq, rl) (nI C, nI Z, nI N, nI M, co, ca, st, pc, mk, ex, sd, fd, pn, sk, fk, fa, fs, pY, ho, aq, rl) := ⟨C, Z, N, M, co, ca, st, pc, mk, ex, sd, fd, pn, sk, fk, fa, fs, pX, pY, ho, aq, rl, rfl, rfl, hC, hZ, hN, hM, I, P⟩
  have fin : ∀ r : Int32, (∀ post : Int32 → SX → Prop, post r (nI C, nI Z, nI N, nI M, co, ca, st, pc, mk, ex, sd, fd, pn, sk, fk, fa, fs, pX, ho, aq, rl) → wpX_throwTo post (nI C, nI Z, nI N, nI M, co, ca, st, pc, mk, ex, sd, fd, pn, sk, fk, fa, fs, pX, ho, aq, rl) v1 v2) → (∀ post : Int32 → SY → Prop, post r (nI C, nI Z, nI N, nI M, co, ca, st, pc, mk, ex, sd, fd, pn, sk, fk, fa, fs, pY, ho, aq, rl) → wpY_throwTo post (nI C, nI Z, nI N, nI M, co, ca, st, pc, mk, ex, sd, fd, pn, sk, fk, fa, fs, pY, ho, aq, rl) v1 v2) → wpX_throwTo (fun r u' => wpY_throwTo (fun r' v' => r' = r ∧ i_Rel (k + 4) u' v') (nI C, nI Z, nI N, nI M, co, ca, st, pc, mk, ex, sd, fd, pn, sk, fk, fa, fs, pY, ho, aq, rl) v1 v2) (nI C, nI Z, nI N, nI M, co, ca, st, pc, mk, ex, sd, fd, pn, sk, fk, fa, fs, pX, ho, aq, rl) v1 v2 := fun r hX hY => hX _ (hY _ ⟨rfl, R⟩)
  rcases pk_ix v1 (n := M) (by omega) with q | q | ⟨t, ht, rfl⟩
  · refine fin 0 (fun post h => ?_) (fun post h => br_t q h)
    simp only [wpX_throwTo, wpX_isAlive, wpX_isThread, q, nI_clamp, pk_us, am_uu, nI_1, nI_pred, am_ip, nI_add, am_m8, am_m4, vp_in_nI, true_and, and_true, forall_eq, true_implies, false_implies, not_true_eq_false, not_false_eq_true, am_ne_1_0, Int32.reduceLT, Int32.reduceLE]
    exact h
  · have hz : ¬ v1 < 0 := am_nb (by omega) q
    refine fin 0 (fun post h => ?_) (fun post h => br_f hz (br_f (Int32.not_lt.mpr q) h))
    simp only [wpX_throwTo, wpX_isAlive, wpX_isThread, q, hz, nI_clamp, pk_us, am_uu, nI_1, nI_pred, am_ip, nI_add, am_m8, am_m4, vp_in_nI, true_and, and_true, forall_eq, true_implies, false_implies, not_true_eq_false, not_false_eq_true, am_ne_1_0, Int32.reduceLT, Int32.reduceLE]
    exact h
  have e1 : ¬ nI t < 0 := nI_pos (by omega)
  have e2 : ¬ nI M ≤ nI t := nI_ge ht (by omega)
  have e3 : nI t < nI M := nI_lt ht (by omega)
  by_cases ha : st t = 1
  case neg =>
    refine fin 0 (fun post h => ?_) (fun post h => ?_)
    · simp (disch := omega) only [wpX_throwTo, wpX_isAlive, wpX_isThread, e1, e2, ha, nI_clamp, pk_us, am_uu, nI_1, nI_pred, am_ip, nI_add, am_m8, am_m4, vp_in_nI, true_and, and_true, forall_eq, true_implies, false_implies, not_true_eq_false, not_false_eq_true, am_ne_1_0, Int32.reduceLT, Int32.reduceLE]
      exact h
    · simp (disch := omega) only [wpY_throwTo, e1, e3, ha, nI_clamp, pk_us, am_uu, nI_1, nI_pred, am_ip, nI_add, am_m8, am_m4, vp_in_nI, true_and, and_true, forall_eq, true_implies, false_implies, not_true_eq_false, not_false_eq_true, am_ne_1_0, Int32.reduceLT, Int32.reduceLE]
      exact h
  obtain ⟨c, hc, hn⟩ := I.2.2.2.1 t
  by_cases c4 : c = 4
  · subst c4
    have hn : pn t = 4 := hn
    refine fin 0 (fun post h => ?_) (fun post h => ?_)
    · simp (disch := omega) only [wpX_throwTo, wpX_isAlive, wpX_isThread, wpX_appendPending, e1, e2, ha, hn, nI_clamp, pk_us, am_uu, nI_1, nI_pred, am_ip, nI_add, am_m8, am_m4, vp_in_nI, true_and, and_true, forall_eq, true_implies, false_implies, not_true_eq_false, not_false_eq_true, am_ne_1_0, Int32.reduceLT, Int32.reduceLE]
      exact h
    · simp (disch := omega) only [wpY_throwTo, e1, e3, ha, hn, nI_clamp, pk_us, am_uu, nI_1, nI_pred, am_ip, nI_add, am_m8, am_m4, vp_in_nI, true_and, and_true, forall_eq, true_implies, false_implies, not_true_eq_false, not_false_eq_true, am_ne_1_0, Int32.reduceLT, Int32.reduceLE]
      exact h
  have e4 : ¬ nI c = 4 := fun q => by rw [am_eq4 (by omega)] at q; omega
  have X : ∀ post : Int32 → SX → Prop, post 1 (nI C, nI Z, nI N, nI M, co, ca, st, pc, mk, ex, sd, fd, (upd pn t (nI (c + 1))), sk, fk, fa, fs, (upd pX (t * 4 + c) v2), ho, aq, rl) → wpX_throwTo post (nI C, nI Z, nI N, nI M, co, ca, st, pc, mk, ex, sd, fd, pn, sk, fk, fa, fs, pX, ho, aq, rl) (nI t) v2 := by
    intro post h
    simp (disch := omega) only [wpX_throwTo, wpX_isAlive, wpX_isThread, wpX_appendPending, e1, e2, e4, ha, hn, nI_clamp, pk_us, am_uu, nI_1, nI_pred, am_ip, nI_add, am_m8, am_m4, vp_in_nI, true_and, and_true, forall_eq, true_implies, false_implies, not_true_eq_false, not_false_eq_true, am_ne_1_0, Int32.reduceLT, Int32.reduceLE]
    exact h
  have Y : ∀ post : Int32 → SY → Prop, post 1 (nI C, nI Z, nI N, nI M, co, ca, st, pc, mk, ex, sd, fd, (upd pn t (nI (c + 1))), sk, fk, fa, fs, (upd pY (t * 4 + c) v2), ho, aq, rl) → wpY_throwTo post (nI C, nI Z, nI N, nI M, co, ca, st, pc, mk, ex, sd, fd, pn, sk, fk, fa, fs, pY, ho, aq, rl) (nI t) v2 := by
    intro post h
    simp (disch := omega) only [wpY_throwTo, e1, e3, e4, ha, hn, nI_clamp, pk_us, am_uu, nI_1, nI_pred, am_ip, nI_add, am_m8, am_m4, vp_in_nI, true_and, and_true, forall_eq, true_implies, false_implies, not_true_eq_false, not_false_eq_true, am_ne_1_0, Int32.reduceLT, Int32.reduceLE]
    exact h
  exact X _ (Y _ ⟨rfl, C, Z, N, M, co, ca, st, pc, mk, ex, sd, fd, (upd pn t (nI (c + 1))), sk, fk, fa, fs, (upd pX (t * 4 + c) v2), (upd pY (t * 4 + c) v2), ho, aq, rl, rfl, rfl, hC, hZ, hN, hM, am_I_pn I ht (by omega), am_P_app P (by omega) (by omega) hn⟩)
theorem i_vc_getThreadCount {k : Nat} {u : SX} {v : SY} (I : i_Rel k u v) (hk : k + 4 ≤ 2050) : wpX_getThreadCount (fun r => wpY_getThreadCount (fun r' => r' = r ∧ i_Rel (k + 4) u v) v) u := by
  obtain ⟨C, Z, N, M, co, ca, st, pc, mk, ex, sd, fd, pn, sk, fk, fa, fs, pX, pY, ho, aq, rl, rfl, rfl, hC, hZ, hN, hM, I, P⟩ := I
  exact ⟨rfl, C, Z, N, M, co, ca, st, pc, mk, ex, sd, fd, pn, sk, fk, fa, fs, pX, pY, ho, aq, rl, rfl, rfl, hC, hZ, hN, hM, I, P⟩
theorem i_vc_getCodeSize {k : Nat} {u : SX} {v : SY} (I : i_Rel k u v) (hk : k + 4 ≤ 2050) : wpX_getCodeSize (fun r => wpY_getCodeSize (fun r' => r' = r ∧ i_Rel (k + 4) u v) v) u := by
  obtain ⟨C, Z, N, M, co, ca, st, pc, mk, ex, sd, fd, pn, sk, fk, fa, fs, pX, pY, ho, aq, rl, rfl, rfl, hC, hZ, hN, hM, I, P⟩ := I
  exact ⟨rfl, C, Z, N, M, co, ca, st, pc, mk, ex, sd, fd, pn, sk, fk, fa, fs, pX, pY, ho, aq, rl, rfl, rfl, hC, hZ, hN, hM, I, P⟩
theorem i_vc_getStack {k : Nat} {u : SX} {v : SY} (I : i_Rel k u v) (hk : k + 4 ≤ 2050) (v1 : Int32) (v2 : Int32) : wpX_getStack (fun r => wpY_getStack (fun r' => r' = r ∧ i_Rel (k + 4) u v) v v1 v2) u v1 v2 := by
  obtain ⟨C, Z, N, M, co, ca, st, pc, mk, ex, sd, fd, pn, sk, fk, fa, fs, pX, pY, ho, aq, rl, rfl, rfl, hC, hZ, hN, hM, I, P⟩ := I
  have R : i_Rel (k + 4) (nI C, nI Z, nI N, nI M, co, ca, st, pc, mk, ex, sd, fd, pn, sk, fk, fa, fs, pX, ho, aq, rl) (nI C, nI Z, nI N, nI M, co, ca, st, pc, mk, ex, sd, fd, pn, sk, fk, fa, fs, pY, ho, aq, rl) := ⟨C, Z, N, M, co, ca, st, pc, mk, ex, sd, fd, pn, sk, fk, fa, fs, pX, pY, ho, aq, rl, rfl, rfl, hC, hZ, hN, hM, I, P⟩
  have fin : ∀ r : Int32, (∀ post : Int32 → Prop, post r → wpX_getStack post (nI C, nI Z, nI N, nI M, co, ca, st, pc, mk, ex, sd, fd, pn, sk, fk, fa, fs, pX, ho, aq, rl) v1 v2) → (∀ post : Int32 → Prop, post r → wpY_getStack post (nI C, nI Z, nI N, nI M, co, ca, st, pc, mk, ex, sd, fd, pn, sk, fk, fa, fs, pY, ho, aq, rl) v1 v2) → wpX_getStack (fun r => wpY_getStack (fun r' => r' = r ∧ i_Rel (k + 4) (nI C, nI Z, nI N, nI M, co, ca, st, pc, mk, ex, sd, fd, pn, sk, fk, fa, fs, pX, ho, aq, rl) (nI C, nI Z, nI N, nI M, co, ca, st, pc, mk, ex, sd, fd, pn, sk, fk, fa, fs, pY, ho, aq, rl)) (nI C, nI Z, nI N, nI M, co, ca, st, pc, mk, ex, sd, fd, pn, sk, fk, fa, fs, pY, ho, aq, rl) v1 v2) (nI C, nI Z, nI N, nI M, co, ca, st, pc, mk, ex, sd, fd, pn, sk, fk, fa, fs, pX, ho, aq, rl) v1 v2 := fun r hX hY => hX _ (hY _ ⟨rfl, R⟩)
  rcases pk_ix v1 (n := M) (by omega) with q | q | ⟨t, ht, rfl⟩
  · refine fin 0 (fun post h => ?_) (fun post h => ?_)
    · simp (disch := omega) only [wpX_getStack, wpX_isThread, q, nI_clamp, pk_us, am_uu, nI_1, nI_pred, am_ip, nI_add, am_m8, am_m4, vp_in_nI, true_and, and_true, forall_eq, true_implies, false_implies, not_true_eq_false, not_false_eq_true, am_ne_1_0, Int32.reduceLT, Int32.reduceLE]
      exact h
    · simp (disch := omega) only [wpY_getStack, q, nI_clamp, pk_us, am_uu, nI_1, nI_pred, am_ip, nI_add, am_m8, am_m4, vp_in_nI, true_and, and_true, forall_eq, true_implies, false_implies, not_true_eq_false, not_false_eq_true, am_ne_1_0, Int32.reduceLT, Int32.reduceLE]
      exact h
  · have hz : ¬ v1 < 0 := am_nb (by omega) q
    refine fin 0 (fun post h => ?_) (fun post h => ?_)
    · simp (disch := omega) only [wpX_getStack, wpX_isThread, q, hz, nI_clamp, pk_us, am_uu, nI_1, nI_pred, am_ip, nI_add, am_m8, am_m4, vp_in_nI, true_and, and_true, forall_eq, true_implies, false_implies, not_true_eq_false, not_false_eq_true, am_ne_1_0, Int32.reduceLT, Int32.reduceLE]
      exact h
    · simp (disch := omega) only [wpY_getStack, q, hz, nI_clamp, pk_us, am_uu, nI_1, nI_pred, am_ip, nI_add, am_m8, am_m4, vp_in_nI, true_and, and_true, forall_eq, true_implies, false_implies, not_true_eq_false, not_false_eq_true, am_ne_1_0, Int32.reduceLT, Int32.reduceLE]
      exact h
  have e1 : ¬ nI t < 0 := nI_pos (by omega)
  have e2 : ¬ nI M ≤ nI t := nI_ge ht (by omega)
  obtain ⟨d, hd, hs⟩ := I.2.1 t
  rcases pk_ix v2 (n := d) (by omega) with w | w | ⟨i, hi, rfl⟩
  · refine fin 0 (fun post h => ?_) (fun post h => ?_)
    · simp (disch := omega) only [wpX_getStack, wpX_isThread, e1, e2, w, nI_clamp, pk_us, am_uu, nI_1, nI_pred, am_ip, nI_add, am_m8, am_m4, vp_in_nI, true_and, and_true, forall_eq, true_implies, false_implies, not_true_eq_false, not_false_eq_true, am_ne_1_0, Int32.reduceLT, Int32.reduceLE]
      exact h
    · simp (disch := omega) only [wpY_getStack, e1, e2, w, nI_clamp, pk_us, am_uu, nI_1, nI_pred, am_ip, nI_add, am_m8, am_m4, vp_in_nI, true_and, and_true, forall_eq, true_implies, false_implies, not_true_eq_false, not_false_eq_true, am_ne_1_0, Int32.reduceLT, Int32.reduceLE]
      exact h
  · have hz : ¬ v2 < 0 := am_nb (by omega) w
    have hy : ¬ v2 < nI d := Int32.not_lt.mpr w
    refine fin 0 (fun post h => ?_) (fun post h => ?_)
    · simp (disch := omega) only [wpX_getStack, wpX_isThread, e1, e2, hz, hy, hs, nI_clamp, pk_us, am_uu, nI_1, nI_pred, am_ip, nI_add, am_m8, am_m4, vp_in_nI, true_and, and_true, forall_eq, true_implies, false_implies, not_true_eq_false, not_false_eq_true, am_ne_1_0, Int32.reduceLT, Int32.reduceLE]
      exact h
    · simp (disch := omega) only [wpY_getStack, e1, e2, hz, hy, hs, nI_clamp, pk_us, am_uu, nI_1, nI_pred, am_ip, nI_add, am_m8, am_m4, vp_in_nI, true_and, and_true, forall_eq, true_implies, false_implies, not_true_eq_false, not_false_eq_true, am_ne_1_0, Int32.reduceLT, Int32.reduceLE]
      exact h
  have e3 : ¬ nI i < 0 := nI_pos (by omega)
  have e4 : nI i < nI d := nI_lt hi (by omega)
  refine fin (sk (t * 8 + i)) (fun post h => ?_) (fun post h => ?_)
  · simp (disch := omega) only [wpX_getStack, wpX_isThread, e1, e2, e3, e4, hs, nI_clamp, pk_us, am_uu, nI_1, nI_pred, am_ip, nI_add, am_m8, am_m4, vp_in_nI, true_and, and_true, forall_eq, true_implies, false_implies, not_true_eq_false, not_false_eq_true, am_ne_1_0, Int32.reduceLT, Int32.reduceLE]
    exact h
  · simp (disch := omega) only [wpY_getStack, e1, e2, e3, e4, hs, nI_clamp, pk_us, am_uu, nI_1, nI_pred, am_ip, nI_add, am_m8, am_m4, vp_in_nI, true_and, and_true, forall_eq, true_implies, false_implies, not_true_eq_false, not_false_eq_true, am_ne_1_0, Int32.reduceLT, Int32.reduceLE]
    exact h
theorem i_vc_getPending {k : Nat} {u : SX} {v : SY} (I : i_Rel k u v) (hk : k + 4 ≤ 2050) (v1 : Int32) (v2 : Int32) : wpX_getPending (fun r => wpY_getPending (fun r' => r' = r ∧ i_Rel (k + 4) u v) v v1 v2) u v1 v2 := by
  obtain ⟨C, Z, N, M, co, ca, st, pc, mk, ex, sd, fd, pn, sk, fk, fa, fs, pX, pY, ho, aq, rl, rfl, rfl, hC, hZ, hN, hM, I, P⟩ := I
  have R : i_Rel (k + 4) (nI C, nI Z, nI N, nI M, co, ca, st, pc, mk, ex, sd, fd, pn, sk, fk, fa, fs, pX, ho, aq, rl) (nI C, nI Z, nI N, nI M, co, ca, st, pc, mk, ex, sd, fd, pn, sk, fk, fa, fs, pY, ho, aq, rl) := ⟨C, Z, N, M, co, ca, st, pc, mk, ex, sd, fd, pn, sk, fk, fa, fs, pX, pY, ho, aq, rl, rfl, rfl, hC, hZ, hN, hM, I, P⟩
  have fin : ∀ r : Int32, (∀ post : Int32 → Prop, post r → wpX_getPending post (nI C, nI Z, nI N, nI M, co, ca, st, pc, mk, ex, sd, fd, pn, sk, fk, fa, fs, pX, ho, aq, rl) v1 v2) → (∀ post : Int32 → Prop, post r → wpY_getPending post (nI C, nI Z, nI N, nI M, co, ca, st, pc, mk, ex, sd, fd, pn, sk, fk, fa, fs, pY, ho, aq, rl) v1 v2) → wpX_getPending (fun r => wpY_getPending (fun r' => r' = r ∧ i_Rel (k + 4) (nI C, nI Z, nI N, nI M, co, ca, st, pc, mk, ex, sd, fd, pn, sk, fk, fa, fs, pX, ho, aq, rl) (nI C, nI Z, nI N, nI M, co, ca, st, pc, mk, ex, sd, fd, pn, sk, fk, fa, fs, pY, ho, aq, rl)) (nI C, nI Z, nI N, nI M, co, ca, st, pc, mk, ex, sd, fd, pn, sk, fk, fa, fs, pY, ho, aq, rl) v1 v2) (nI C, nI Z, nI N, nI M, co, ca, st, pc, mk, ex, sd, fd, pn, sk, fk, fa, fs, pX, ho, aq, rl) v1 v2 := fun r hX hY => hX _ (hY _ ⟨rfl, R⟩)
  rcases pk_ix v1 (n := M) (by omega) with q | q | ⟨t, ht, rfl⟩
  · refine fin 0 (fun post h => ?_) (fun post h => ?_)
    · simp (disch := omega) only [wpX_getPending, wpX_isThread, q, nI_clamp, pk_us, am_uu, nI_1, nI_pred, am_ip, nI_add, am_m8, am_m4, vp_in_nI, true_and, and_true, forall_eq, true_implies, false_implies, not_true_eq_false, not_false_eq_true, am_ne_1_0, Int32.reduceLT, Int32.reduceLE]
      exact h
    · simp (disch := omega) only [wpY_getPending, q, nI_clamp, pk_us, am_uu, nI_1, nI_pred, am_ip, nI_add, am_m8, am_m4, vp_in_nI, true_and, and_true, forall_eq, true_implies, false_implies, not_true_eq_false, not_false_eq_true, am_ne_1_0, Int32.reduceLT, Int32.reduceLE]
      exact h
  · have hz : ¬ v1 < 0 := am_nb (by omega) q
    refine fin 0 (fun post h => ?_) (fun post h => ?_)
    · simp (disch := omega) only [wpX_getPending, wpX_isThread, q, hz, nI_clamp, pk_us, am_uu, nI_1, nI_pred, am_ip, nI_add, am_m8, am_m4, vp_in_nI, true_and, and_true, forall_eq, true_implies, false_implies, not_true_eq_false, not_false_eq_true, am_ne_1_0, Int32.reduceLT, Int32.reduceLE]
      exact h
    · simp (disch := omega) only [wpY_getPending, q, hz, nI_clamp, pk_us, am_uu, nI_1, nI_pred, am_ip, nI_add, am_m8, am_m4, vp_in_nI, true_and, and_true, forall_eq, true_implies, false_implies, not_true_eq_false, not_false_eq_true, am_ne_1_0, Int32.reduceLT, Int32.reduceLE]
      exact h
  have e1 : ¬ nI t < 0 := nI_pos (by omega)
  have e2 : ¬ nI M ≤ nI t := nI_ge ht (by omega)
  obtain ⟨d, hd, hs⟩ := I.2.2.2.1 t
  rcases pk_ix v2 (n := d) (by omega) with w | w | ⟨i, hi, rfl⟩
  · refine fin 0 (fun post h => ?_) (fun post h => ?_)
    · simp (disch := omega) only [wpX_getPending, wpX_isThread, e1, e2, w, nI_clamp, pk_us, am_uu, nI_1, nI_pred, am_ip, nI_add, am_m8, am_m4, vp_in_nI, true_and, and_true, forall_eq, true_implies, false_implies, not_true_eq_false, not_false_eq_true, am_ne_1_0, Int32.reduceLT, Int32.reduceLE]
      exact h
    · simp (disch := omega) only [wpY_getPending, e1, e2, w, nI_clamp, pk_us, am_uu, nI_1, nI_pred, am_ip, nI_add, am_m8, am_m4, vp_in_nI, true_and, and_true, forall_eq, true_implies, false_implies, not_true_eq_false, not_false_eq_true, am_ne_1_0, Int32.reduceLT, Int32.reduceLE]
      exact h
  · have hz : ¬ v2 < 0 := am_nb (by omega) w
    have hy : ¬ v2 < nI d := Int32.not_lt.mpr w
    refine fin 0 (fun post h => ?_) (fun post h => ?_)
    · simp (disch := omega) only [wpX_getPending, wpX_isThread, e1, e2, hz, hy, hs, nI_clamp, pk_us, am_uu, nI_1, nI_pred, am_ip, nI_add, am_m8, am_m4, vp_in_nI, true_and, and_true, forall_eq, true_implies, false_implies, not_true_eq_false, not_false_eq_true, am_ne_1_0, Int32.reduceLT, Int32.reduceLE]
      exact h
    · simp (disch := omega) only [wpY_getPending, e1, e2, hz, hy, hs, nI_clamp, pk_us, am_uu, nI_1, nI_pred, am_ip, nI_add, am_m8, am_m4, vp_in_nI, true_and, and_true, forall_eq, true_implies, false_implies, not_true_eq_false, not_false_eq_true, am_ne_1_0, Int32.reduceLT, Int32.reduceLE]
      exact h
  have e3 : ¬ nI i < 0 := nI_pos (by omega)
  have e4 : nI i < nI d := nI_lt hi (by omega)
  have e5 := P t i d (by omega) hd hs hi
  refine fin (pY (t * 4 + i)) (fun post h => ?_) (fun post h => ?_)
  · simp (disch := omega) only [wpX_getPending, wpX_isThread, e1, e2, e3, e4, e5, hs, nI_clamp, pk_us, am_uu, nI_1, nI_pred, am_ip, nI_add, am_m8, am_m4, vp_in_nI, true_and, and_true, forall_eq, true_implies, false_implies, not_true_eq_false, not_false_eq_true, am_ne_1_0, Int32.reduceLT, Int32.reduceLE]
    exact h
  · simp (disch := omega) only [wpY_getPending, e1, e2, e3, e4, hs, nI_clamp, pk_us, am_uu, nI_1, nI_pred, am_ip, nI_add, am_m8, am_m4, vp_in_nI, true_and, and_true, forall_eq, true_implies, false_implies, not_true_eq_false, not_false_eq_true, am_ne_1_0, Int32.reduceLT, Int32.reduceLE]
    exact h
theorem i_vc_getFrame {k : Nat} {u : SX} {v : SY} (I : i_Rel k u v) (hk : k + 4 ≤ 2050) (v1 : Int32) (v2 : Int32) (v3 : Int32) : wpX_getFrame (fun r => wpY_getFrame (fun r' => r' = r ∧ i_Rel (k + 4) u v) v v1 v2 v3) u v1 v2 v3 := by
  obtain ⟨C, Z, N, M, co, ca, st, pc, mk, ex, sd, fd, pn, sk, fk, fa, fs, pX, pY, ho, aq, rl, rfl, rfl, hC, hZ, hN, hM, I, P⟩ := I
  have R : i_Rel (k + 4) (nI C, nI Z, nI N, nI M, co, ca, st, pc, mk, ex, sd, fd, pn, sk, fk, fa, fs, pX, ho, aq, rl) (nI C, nI Z, nI N, nI M, co, ca, st, pc, mk, ex, sd, fd, pn, sk, fk, fa, fs, pY, ho, aq, rl) := ⟨C, Z, N, M, co, ca, st, pc, mk, ex, sd, fd, pn, sk, fk, fa, fs, pX, pY, ho, aq, rl, rfl, rfl, hC, hZ, hN, hM, I, P⟩
  have fin : ∀ r : Int32, (∀ post : Int32 → Prop, post r → wpX_getFrame post (nI C, nI Z, nI N, nI M, co, ca, st, pc, mk, ex, sd, fd, pn, sk, fk, fa, fs, pX, ho, aq, rl) v1 v2 v3) → (∀ post : Int32 → Prop, post r → wpY_getFrame post (nI C, nI Z, nI N, nI M, co, ca, st, pc, mk, ex, sd, fd, pn, sk, fk, fa, fs, pY, ho, aq, rl) v1 v2 v3) → wpX_getFrame (fun r => wpY_getFrame (fun r' => r' = r ∧ i_Rel (k + 4) (nI C, nI Z, nI N, nI M, co, ca, st, pc, mk, ex, sd, fd, pn, sk, fk, fa, fs, pX, ho, aq, rl) (nI C, nI Z, nI N, nI M, co, ca, st, pc, mk, ex, sd, fd, pn, sk, fk, fa, fs, pY, ho, aq, rl)) (nI C, nI Z, nI N, nI M, co, ca, st, pc, mk, ex, sd, fd, pn, sk, fk, fa, fs, pY, ho, aq, rl) v1 v2 v3) (nI C, nI Z, nI N, nI M, co, ca, st, pc, mk, ex, sd, fd, pn, sk, fk, fa, fs, pX, ho, aq, rl) v1 v2 v3 := fun r hX hY => hX _ (hY _ ⟨rfl, R⟩)
  rcases pk_ix v1 (n := M) (by omega) with q | q | ⟨t, ht, rfl⟩
  · refine fin 0 (fun post h => ?_) (fun post h => ?_)
    · simp (disch := omega) only [wpX_getFrame, wpX_isThread, q, nI_clamp, pk_us, am_uu, nI_1, nI_pred, am_ip, nI_add, am_m8, am_m4, vp_in_nI, true_and, and_true, forall_eq, true_implies, false_implies, not_true_eq_false, not_false_eq_true, am_ne_1_0, Int32.reduceLT, Int32.reduceLE]
      exact h
    · simp (disch := omega) only [wpY_getFrame, q, nI_clamp, pk_us, am_uu, nI_1, nI_pred, am_ip, nI_add, am_m8, am_m4, vp_in_nI, true_and, and_true, forall_eq, true_implies, false_implies, not_true_eq_false, not_false_eq_true, am_ne_1_0, Int32.reduceLT, Int32.reduceLE]
      exact h
  · have hz : ¬ v1 < 0 := am_nb (by omega) q
    refine fin 0 (fun post h => ?_) (fun post h => ?_)
    · simp (disch := omega) only [wpX_getFrame, wpX_isThread, q, hz, nI_clamp, pk_us, am_uu, nI_1, nI_pred, am_ip, nI_add, am_m8, am_m4, vp_in_nI, true_and, and_true, forall_eq, true_implies, false_implies, not_true_eq_false, not_false_eq_true, am_ne_1_0, Int32.reduceLT, Int32.reduceLE]
      exact h
    · simp (disch := omega) only [wpY_getFrame, q, hz, nI_clamp, pk_us, am_uu, nI_1, nI_pred, am_ip, nI_add, am_m8, am_m4, vp_in_nI, true_and, and_true, forall_eq, true_implies, false_implies, not_true_eq_false, not_false_eq_true, am_ne_1_0, Int32.reduceLT, Int32.reduceLE]
      exact h
  have e1 : ¬ nI t < 0 := nI_pos (by omega)
  have e2 : ¬ nI M ≤ nI t := nI_ge ht (by omega)
  obtain ⟨d, hd, hs⟩ := I.2.2.1 t
  rcases pk_ix v2 (n := d) (by omega) with w | w | ⟨i, hi, rfl⟩
  · refine fin 0 (fun post h => ?_) (fun post h => ?_)
    · simp (disch := omega) only [wpX_getFrame, wpX_isThread, e1, e2, w, nI_clamp, pk_us, am_uu, nI_1, nI_pred, am_ip, nI_add, am_m8, am_m4, vp_in_nI, true_and, and_true, forall_eq, true_implies, false_implies, not_true_eq_false, not_false_eq_true, am_ne_1_0, Int32.reduceLT, Int32.reduceLE]
      exact h
    · simp (disch := omega) only [wpY_getFrame, e1, e2, w, nI_clamp, pk_us, am_uu, nI_1, nI_pred, am_ip, nI_add, am_m8, am_m4, vp_in_nI, true_and, and_true, forall_eq, true_implies, false_implies, not_true_eq_false, not_false_eq_true, am_ne_1_0, Int32.reduceLT, Int32.reduceLE]
      exact h
  · have hz : ¬ v2 < 0 := am_nb (by omega) w
    have hy : ¬ v2 < nI d := Int32.not_lt.mpr w
    refine fin 0 (fun post h => ?_) (fun post h => ?_)
    · simp (disch := omega) only [wpX_getFrame, wpX_isThread, e1, e2, hz, hy, hs, nI_clamp, pk_us, am_uu, nI_1, nI_pred, am_ip, nI_add, am_m8, am_m4, vp_in_nI, true_and, and_true, forall_eq, true_implies, false_implies, not_true_eq_false, not_false_eq_true, am_ne_1_0, Int32.reduceLT, Int32.reduceLE]
      exact h
    · simp (disch := omega) only [wpY_getFrame, e1, e2, hz, hy, hs, nI_clamp, pk_us, am_uu, nI_1, nI_pred, am_ip, nI_add, am_m8, am_m4, vp_in_nI, true_and, and_true, forall_eq, true_implies, false_implies, not_true_eq_false, not_false_eq_true, am_ne_1_0, Int32.reduceLT, Int32.reduceLE]
      exact h
  have e3 : ¬ nI i < 0 := nI_pos (by omega)
  have e4 : nI i < nI d := nI_lt hi (by omega)
  by_cases f0 : v3 = 0
  · subst f0
    refine fin (fk (t * 8 + i)) (fun post h => ?_) (fun post h => ?_)
    · simp (disch := omega) only [wpX_getFrame, wpX_isThread, e1, e2, e3, e4, hs, nI_clamp, pk_us, am_uu, nI_1, nI_pred, am_ip, nI_add, am_m8, am_m4, vp_in_nI, true_and, and_true, forall_eq, true_implies, false_implies, not_true_eq_false, not_false_eq_true, am_ne_1_0, Int32.reduceLT, Int32.reduceLE]
      exact h
    · simp (disch := omega) only [wpY_getFrame, e1, e2, e3, e4, hs, nI_clamp, pk_us, am_uu, nI_1, nI_pred, am_ip, nI_add, am_m8, am_m4, vp_in_nI, true_and, and_true, forall_eq, true_implies, false_implies, not_true_eq_false, not_false_eq_true, am_ne_1_0, Int32.reduceLT, Int32.reduceLE]
      exact h
  by_cases f1 : v3 = 1
  · subst f1
    refine fin (fa (t * 8 + i)) (fun post h => ?_) (fun post h => ?_)
    · simp (disch := omega) only [wpX_getFrame, wpX_isThread, e1, e2, e3, e4, hs, am_ne_1_0, nI_clamp, pk_us, am_uu, nI_1, nI_pred, am_ip, nI_add, am_m8, am_m4, vp_in_nI, true_and, and_true, forall_eq, true_implies, false_implies, not_true_eq_false, not_false_eq_true, am_ne_1_0, Int32.reduceLT, Int32.reduceLE]
      exact h
    · simp (disch := omega) only [wpY_getFrame, e1, e2, e3, e4, hs, am_ne_1_0, nI_clamp, pk_us, am_uu, nI_1, nI_pred, am_ip, nI_add, am_m8, am_m4, vp_in_nI, true_and, and_true, forall_eq, true_implies, false_implies, not_true_eq_false, not_false_eq_true, am_ne_1_0, Int32.reduceLT, Int32.reduceLE]
      exact h
  by_cases f2 : v3 = 2
  · subst f2
    refine fin (fs (t * 8 + i)) (fun post h => ?_) (fun post h => ?_)
    · simp (disch := omega) only [wpX_getFrame, wpX_isThread, e1, e2, e3, e4, hs, am_ne_2_0, am_ne_2_1, nI_clamp, pk_us, am_uu, nI_1, nI_pred, am_ip, nI_add, am_m8, am_m4, vp_in_nI, true_and, and_true, forall_eq, true_implies, false_implies, not_true_eq_false, not_false_eq_true, am_ne_1_0, Int32.reduceLT, Int32.reduceLE]
      exact h
    · simp (disch := omega) only [wpY_getFrame, e1, e2, e3, e4, hs, am_ne_2_0, am_ne_2_1, nI_clamp, pk_us, am_uu, nI_1, nI_pred, am_ip, nI_add, am_m8, am_m4, vp_in_nI, true_and, and_true, forall_eq, true_implies, false_implies, not_true_eq_false, not_false_eq_true, am_ne_1_0, Int32.reduceLT, Int32.reduceLE]
      exact h
  by_cases g0 : v3 < 0
  · refine fin 0 (fun post h => ?_) (fun post h => ?_)
    · simp (disch := omega) only [wpX_getFrame, wpX_isThread, e1, e2, e3, e4, hs, g0, f0, f1, f2, nI_clamp, pk_us, am_uu, nI_1, nI_pred, am_ip, nI_add, am_m8, am_m4, vp_in_nI, true_and, and_true, forall_eq, true_implies, false_implies, not_true_eq_false, not_false_eq_true, am_ne_1_0, Int32.reduceLT, Int32.reduceLE]
      exact h
    · simp (disch := omega) only [wpY_getFrame, e1, e2, e3, e4, hs, g0, f0, f1, f2, nI_clamp, pk_us, am_uu, nI_1, nI_pred, am_ip, nI_add, am_m8, am_m4, vp_in_nI, true_and, and_true, forall_eq, true_implies, false_implies, not_true_eq_false, not_false_eq_true, am_ne_1_0, Int32.reduceLT, Int32.reduceLE]
      exact h
  by_cases g1 : 2 < v3
  · refine fin 0 (fun post h => ?_) (fun post h => ?_)
    · simp (disch := omega) only [wpX_getFrame, wpX_isThread, e1, e2, e3, e4, hs, g0, g1, f0, f1, f2, nI_clamp, pk_us, am_uu, nI_1, nI_pred, am_ip, nI_add, am_m8, am_m4, vp_in_nI, true_and, and_true, forall_eq, true_implies, false_implies, not_true_eq_false, not_false_eq_true, am_ne_1_0, Int32.reduceLT, Int32.reduceLE]
      exact h
    · simp (disch := omega) only [wpY_getFrame, e1, e2, e3, e4, hs, g0, g1, f0, f1, f2, nI_clamp, pk_us, am_uu, nI_1, nI_pred, am_ip, nI_add, am_m8, am_m4, vp_in_nI, true_and, and_true, forall_eq, true_implies, false_implies, not_true_eq_false, not_false_eq_true, am_ne_1_0, Int32.reduceLT, Int32.reduceLE]
      exact h
  exact am_no2 v3 g0 g1 f0 f1 f2
theorem i_vc_getThread {k : Nat} {u : SX} {v : SY} (I : i_Rel k u v) (hk : k + 4 ≤ 2050) (v1 : Int32) (v2 : Int32) : wpX_getThread (fun r => wpY_getThread (fun r' => r' = r ∧ i_Rel (k + 4) u v) v v1 v2) u v1 v2 := by
  obtain ⟨C, Z, N, M, co, ca, st, pc, mk, ex, sd, fd, pn, sk, fk, fa, fs, pX, pY, ho, aq, rl, rfl, rfl, hC, hZ, hN, hM, I, P⟩ := I
  have R : i_Rel (k + 4) (nI C, nI Z, nI N, nI M, co, ca, st, pc, mk, ex, sd, fd, pn, sk, fk, fa, fs, pX, ho, aq, rl) (nI C, nI Z, nI N, nI M, co, ca, st, pc, mk, ex, sd, fd, pn, sk, fk, fa, fs, pY, ho, aq, rl) := ⟨C, Z, N, M, co, ca, st, pc, mk, ex, sd, fd, pn, sk, fk, fa, fs, pX, pY, ho, aq, rl, rfl, rfl, hC, hZ, hN, hM, I, P⟩
  have fin : ∀ r : Int32, (∀ post : Int32 → Prop, post r → wpX_getThread post (nI C, nI Z, nI N, nI M, co, ca, st, pc, mk, ex, sd, fd, pn, sk, fk, fa, fs, pX, ho, aq, rl) v1 v2) → (∀ post : Int32 → Prop, post r → wpY_getThread post (nI C, nI Z, nI N, nI M, co, ca, st, pc, mk, ex, sd, fd, pn, sk, fk, fa, fs, pY, ho, aq, rl) v1 v2) → wpX_getThread (fun r => wpY_getThread (fun r' => r' = r ∧ i_Rel (k + 4) (nI C, nI Z, nI N, nI M, co, ca, st, pc, mk, ex, sd, fd, pn, sk, fk, fa, fs, pX, ho, aq, rl) (nI C, nI Z, nI N, nI M, co, ca, st, pc, mk, ex, sd, fd, pn, sk, fk, fa, fs, pY, ho, aq, rl)) (nI C, nI Z, nI N, nI M, co, ca, st, pc, mk, ex, sd, fd, pn, sk, fk, fa, fs, pY, ho, aq, rl) v1 v2) (nI C, nI Z, nI N, nI M, co, ca, st, pc, mk, ex, sd, fd, pn, sk, fk, fa, fs, pX, ho, aq, rl) v1 v2 := fun r hX hY => hX _ (hY _ ⟨rfl, R⟩)
  rcases pk_ix v1 (n := M) (by omega) with q | q | ⟨t, ht, rfl⟩
  · refine fin (-1) (fun post h => ?_) (fun post h => ?_)
    · simp (disch := omega) only [wpX_getThread, wpX_isThread, q, nI_clamp, pk_us, am_uu, nI_1, nI_pred, am_ip, nI_add, am_m8, am_m4, vp_in_nI, true_and, and_true, forall_eq, true_implies, false_implies, not_true_eq_false, not_false_eq_true, am_ne_1_0, Int32.reduceLT, Int32.reduceLE]
      exact h
    · simp (disch := omega) only [wpY_getThread, q, nI_clamp, pk_us, am_uu, nI_1, nI_pred, am_ip, nI_add, am_m8, am_m4, vp_in_nI, true_and, and_true, forall_eq, true_implies, false_implies, not_true_eq_false, not_false_eq_true, am_ne_1_0, Int32.reduceLT, Int32.reduceLE]
      exact h
  · have hz : ¬ v1 < 0 := am_nb (by omega) q
    refine fin (-1) (fun post h => ?_) (fun post h => ?_)
    · simp (disch := omega) only [wpX_getThread, wpX_isThread, q, hz, nI_clamp, pk_us, am_uu, nI_1, nI_pred, am_ip, nI_add, am_m8, am_m4, vp_in_nI, true_and, and_true, forall_eq, true_implies, false_implies, not_true_eq_false, not_false_eq_true, am_ne_1_0, Int32.reduceLT, Int32.reduceLE]
      exact h
    · simp (disch := omega) only [wpY_getThread, q, hz, nI_clamp, pk_us, am_uu, nI_1, nI_pred, am_ip, nI_add, am_m8, am_m4, vp_in_nI, true_and, and_true, forall_eq, true_implies, false_implies, not_true_eq_false, not_false_eq_true, am_ne_1_0, Int32.reduceLT, Int32.reduceLE]
      exact h
  have e1 : ¬ nI t < 0 := nI_pos (by omega)
  have e2 : ¬ nI M ≤ nI t := nI_ge ht (by omega)
  by_cases f0 : v2 = 0
  · subst f0
    refine fin (st t) (fun post h => ?_) (fun post h => ?_)
    · simp (disch := omega) only [wpX_getThread, wpX_isThread, e1, e2, nI_clamp, pk_us, am_uu, nI_1, nI_pred, am_ip, nI_add, am_m8, am_m4, vp_in_nI, true_and, and_true, forall_eq, true_implies, false_implies, not_true_eq_false, not_false_eq_true, am_ne_1_0, Int32.reduceLT, Int32.reduceLE]
      exact h
    · simp (disch := omega) only [wpY_getThread, e1, e2, nI_clamp, pk_us, am_uu, nI_1, nI_pred, am_ip, nI_add, am_m8, am_m4, vp_in_nI, true_and, and_true, forall_eq, true_implies, false_implies, not_true_eq_false, not_false_eq_true, am_ne_1_0, Int32.reduceLT, Int32.reduceLE]
      exact h
  by_cases f1 : v2 = 1
  · subst f1
    refine fin (pc t) (fun post h => ?_) (fun post h => ?_)
    · simp (disch := omega) only [wpX_getThread, wpX_isThread, e1, e2, am_ne_1_0, nI_clamp, pk_us, am_uu, nI_1, nI_pred, am_ip, nI_add, am_m8, am_m4, vp_in_nI, true_and, and_true, forall_eq, true_implies, false_implies, not_true_eq_false, not_false_eq_true, am_ne_1_0, Int32.reduceLT, Int32.reduceLE]
      exact h
    · simp (disch := omega) only [wpY_getThread, e1, e2, am_ne_1_0, nI_clamp, pk_us, am_uu, nI_1, nI_pred, am_ip, nI_add, am_m8, am_m4, vp_in_nI, true_and, and_true, forall_eq, true_implies, false_implies, not_true_eq_false, not_false_eq_true, am_ne_1_0, Int32.reduceLT, Int32.reduceLE]
      exact h
  by_cases f2 : v2 = 2
  · subst f2
    refine fin (mk t) (fun post h => ?_) (fun post h => ?_)
    · simp (disch := omega) only [wpX_getThread, wpX_isThread, e1, e2, am_ne_2_0, am_ne_2_1, nI_clamp, pk_us, am_uu, nI_1, nI_pred, am_ip, nI_add, am_m8, am_m4, vp_in_nI, true_and, and_true, forall_eq, true_implies, false_implies, not_true_eq_false, not_false_eq_true, am_ne_1_0, Int32.reduceLT, Int32.reduceLE]
      exact h
    · simp (disch := omega) only [wpY_getThread, e1, e2, am_ne_2_0, am_ne_2_1, nI_clamp, pk_us, am_uu, nI_1, nI_pred, am_ip, nI_add, am_m8, am_m4, vp_in_nI, true_and, and_true, forall_eq, true_implies, false_implies, not_true_eq_false, not_false_eq_true, am_ne_1_0, Int32.reduceLT, Int32.reduceLE]
      exact h
  by_cases f3 : v2 = 3
  · subst f3
    refine fin (ex t) (fun post h => ?_) (fun post h => ?_)
    · simp (disch := omega) only [wpX_getThread, wpX_isThread, e1, e2, am_ne_3_0, am_ne_3_1, am_ne_3_2, nI_clamp, pk_us, am_uu, nI_1, nI_pred, am_ip, nI_add, am_m8, am_m4, vp_in_nI, true_and, and_true, forall_eq, true_implies, false_implies, not_true_eq_false, not_false_eq_true, am_ne_1_0, Int32.reduceLT, Int32.reduceLE]
      exact h
    · simp (disch := omega) only [wpY_getThread, e1, e2, am_ne_3_0, am_ne_3_1, am_ne_3_2, nI_clamp, pk_us, am_uu, nI_1, nI_pred, am_ip, nI_add, am_m8, am_m4, vp_in_nI, true_and, and_true, forall_eq, true_implies, false_implies, not_true_eq_false, not_false_eq_true, am_ne_1_0, Int32.reduceLT, Int32.reduceLE]
      exact h
  by_cases f4 : v2 = 4
  · subst f4
    refine fin (sd t) (fun post h => ?_) (fun post h => ?_)
    · simp (disch := omega) only [wpX_getThread, wpX_isThread, e1, e2, am_ne_4_0, am_ne_4_1, am_ne_4_2, am_ne_4_3, nI_clamp, pk_us, am_uu, nI_1, nI_pred, am_ip, nI_add, am_m8, am_m4, vp_in_nI, true_and, and_true, forall_eq, true_implies, false_implies, not_true_eq_false, not_false_eq_true, am_ne_1_0, Int32.reduceLT, Int32.reduceLE]
      exact h
    · simp (disch := omega) only [wpY_getThread, e1, e2, am_ne_4_0, am_ne_4_1, am_ne_4_2, am_ne_4_3, nI_clamp, pk_us, am_uu, nI_1, nI_pred, am_ip, nI_add, am_m8, am_m4, vp_in_nI, true_and, and_true, forall_eq, true_implies, false_implies, not_true_eq_false, not_false_eq_true, am_ne_1_0, Int32.reduceLT, Int32.reduceLE]
      exact h
  by_cases f5 : v2 = 5
  · subst f5
    refine fin (fd t) (fun post h => ?_) (fun post h => ?_)
    · simp (disch := omega) only [wpX_getThread, wpX_isThread, e1, e2, am_ne_5_0, am_ne_5_1, am_ne_5_2, am_ne_5_3, am_ne_5_4, nI_clamp, pk_us, am_uu, nI_1, nI_pred, am_ip, nI_add, am_m8, am_m4, vp_in_nI, true_and, and_true, forall_eq, true_implies, false_implies, not_true_eq_false, not_false_eq_true, am_ne_1_0, Int32.reduceLT, Int32.reduceLE]
      exact h
    · simp (disch := omega) only [wpY_getThread, e1, e2, am_ne_5_0, am_ne_5_1, am_ne_5_2, am_ne_5_3, am_ne_5_4, nI_clamp, pk_us, am_uu, nI_1, nI_pred, am_ip, nI_add, am_m8, am_m4, vp_in_nI, true_and, and_true, forall_eq, true_implies, false_implies, not_true_eq_false, not_false_eq_true, am_ne_1_0, Int32.reduceLT, Int32.reduceLE]
      exact h
  by_cases f6 : v2 = 6
  · subst f6
    refine fin (pn t) (fun post h => ?_) (fun post h => ?_)
    · simp (disch := omega) only [wpX_getThread, wpX_isThread, e1, e2, am_ne_6_0, am_ne_6_1, am_ne_6_2, am_ne_6_3, am_ne_6_4, am_ne_6_5, nI_clamp, pk_us, am_uu, nI_1, nI_pred, am_ip, nI_add, am_m8, am_m4, vp_in_nI, true_and, and_true, forall_eq, true_implies, false_implies, not_true_eq_false, not_false_eq_true, am_ne_1_0, Int32.reduceLT, Int32.reduceLE]
      exact h
    · simp (disch := omega) only [wpY_getThread, e1, e2, am_ne_6_0, am_ne_6_1, am_ne_6_2, am_ne_6_3, am_ne_6_4, am_ne_6_5, nI_clamp, pk_us, am_uu, nI_1, nI_pred, am_ip, nI_add, am_m8, am_m4, vp_in_nI, true_and, and_true, forall_eq, true_implies, false_implies, not_true_eq_false, not_false_eq_true, am_ne_1_0, Int32.reduceLT, Int32.reduceLE]
      exact h
  by_cases f7 : v2 = 7
  · subst f7
    obtain ⟨b, hb, hbX, hbY⟩ := am_bl (C := C) (Z := Z) (N := N) (co := co) (ca := ca) (pc := pc) (sk := sk) (fs := fs) (ho := ho) (aq := aq) (rl := rl) I ht (by omega)
    refine fin b (fun post h => ?_) (fun post h => ?_)
    · simp (disch := omega) only [wpX_getThread, wpX_isThread, e1, e2, am_ne_7_0, am_ne_7_1, am_ne_7_2, am_ne_7_3, am_ne_7_4, am_ne_7_5, am_ne_7_6, nI_clamp, pk_us, am_uu, nI_1, nI_pred, am_ip, nI_add, am_m8, am_m4, vp_in_nI, true_and, and_true, forall_eq, true_implies, false_implies, not_true_eq_false, not_false_eq_true, am_ne_1_0, Int32.reduceLT, Int32.reduceLE]
      refine hbX _ pX ?_
      rcases hb with rfl | rfl
      · exact br_t rfl h
      · exact br_f (by decide) h
    · simp (disch := omega) only [wpY_getThread, e1, e2, am_ne_7_0, am_ne_7_1, am_ne_7_2, am_ne_7_3, am_ne_7_4, am_ne_7_5, am_ne_7_6, nI_clamp, pk_us, am_uu, nI_1, nI_pred, am_ip, nI_add, am_m8, am_m4, vp_in_nI, true_and, and_true, forall_eq, true_implies, false_implies, not_true_eq_false, not_false_eq_true, am_ne_1_0, Int32.reduceLT, Int32.reduceLE]
      refine hbY _ pY ?_
      rcases hb with rfl | rfl
      · exact br_t rfl h
      · exact br_f (by decide) h
  by_cases g0 : v2 < 0
  · refine fin (-1) (fun post h => ?_) (fun post h => ?_)
    · simp (disch := omega) only [wpX_getThread, wpX_isThread, e1, e2, g0, nI_clamp, pk_us, am_uu, nI_1, nI_pred, am_ip, nI_add, am_m8, am_m4, vp_in_nI, true_and, and_true, forall_eq, true_implies, false_implies, not_true_eq_false, not_false_eq_true, am_ne_1_0, Int32.reduceLT, Int32.reduceLE]
      exact h
    · simp (disch := omega) only [wpY_getThread, e1, e2, g0, nI_clamp, pk_us, am_uu, nI_1, nI_pred, am_ip, nI_add, am_m8, am_m4, vp_in_nI, true_and, and_true, forall_eq, true_implies, false_implies, not_true_eq_false, not_false_eq_true, am_ne_1_0, Int32.reduceLT, Int32.reduceLE]
      exact h
  by_cases g1 : 7 < v2
  · have g2 : ¬ v2 ≤ 7 := Int32.not_le.mpr g1
    refine fin (-1) (fun post h => ?_) (fun post h => ?_)
    · simp (disch := omega) only [wpX_getThread, wpX_isThread, e1, e2, g0, g1, g2, nI_clamp, pk_us, am_uu, nI_1, nI_pred, am_ip, nI_add, am_m8, am_m4, vp_in_nI, true_and, and_true, forall_eq, true_implies, false_implies, not_true_eq_false, not_false_eq_true, am_ne_1_0, Int32.reduceLT, Int32.reduceLE]
      exact h
    · simp (disch := omega) only [wpY_getThread, e1, e2, g0, g1, g2, nI_clamp, pk_us, am_uu, nI_1, nI_pred, am_ip, nI_add, am_m8, am_m4, vp_in_nI, true_and, and_true, forall_eq, true_implies, false_implies, not_true_eq_false, not_false_eq_true, am_ne_1_0, Int32.reduceLT, Int32.reduceLE]
      exact h
  exact am_no7 v2 g0 g1 f0 f1 f2 f3 f4 f5 f6 f7
theorem i_vc_getResource {k : Nat} {u : SX} {v : SY} (I : i_Rel k u v) (hk : k + 4 ≤ 2050) (v1 : Int32) (v2 : Int32) : wpX_getResource (fun r => wpY_getResource (fun r' => r' = r ∧ i_Rel (k + 4) u v) v v1 v2) u v1 v2 := by
  obtain ⟨C, Z, N, M, co, ca, st, pc, mk, ex, sd, fd, pn, sk, fk, fa, fs, pX, pY, ho, aq, rl, rfl, rfl, hC, hZ, hN, hM, I, P⟩ := I
  have R : i_Rel (k + 4) (nI C, nI Z, nI N, nI M, co, ca, st, pc, mk, ex, sd, fd, pn, sk, fk, fa, fs, pX, ho, aq, rl) (nI C, nI Z, nI N, nI M, co, ca, st, pc, mk, ex, sd, fd, pn, sk, fk, fa, fs, pY, ho, aq, rl) := ⟨C, Z, N, M, co, ca, st, pc, mk, ex, sd, fd, pn, sk, fk, fa, fs, pX, pY, ho, aq, rl, rfl, rfl, hC, hZ, hN, hM, I, P⟩
  have fin : ∀ r : Int32, (∀ post : Int32 → Prop, post r → wpX_getResource post (nI C, nI Z, nI N, nI M, co, ca, st, pc, mk, ex, sd, fd, pn, sk, fk, fa, fs, pX, ho, aq, rl) v1 v2) → (∀ post : Int32 → Prop, post r → wpY_getResource post (nI C, nI Z, nI N, nI M, co, ca, st, pc, mk, ex, sd, fd, pn, sk, fk, fa, fs, pY, ho, aq, rl) v1 v2) → wpX_getResource (fun r => wpY_getResource (fun r' => r' = r ∧ i_Rel (k + 4) (nI C, nI Z, nI N, nI M, co, ca, st, pc, mk, ex, sd, fd, pn, sk, fk, fa, fs, pX, ho, aq, rl) (nI C, nI Z, nI N, nI M, co, ca, st, pc, mk, ex, sd, fd, pn, sk, fk, fa, fs, pY, ho, aq, rl)) (nI C, nI Z, nI N, nI M, co, ca, st, pc, mk, ex, sd, fd, pn, sk, fk, fa, fs, pY, ho, aq, rl) v1 v2) (nI C, nI Z, nI N, nI M, co, ca, st, pc, mk, ex, sd, fd, pn, sk, fk, fa, fs, pX, ho, aq, rl) v1 v2 := fun r hX hY => hX _ (hY _ ⟨rfl, R⟩)
  rcases pk_ix v1 (n := 8) (by omega) with q | q | ⟨t, ht, rfl⟩
  · refine fin (-1) (fun post h => ?_) (fun post h => ?_)
    · simp (disch := omega) only [wpX_getResource, wpX_isResource, q, nI_clamp, pk_us, am_uu, nI_1, nI_pred, am_ip, nI_add, am_m8, am_m4, vp_in_nI, true_and, and_true, forall_eq, true_implies, false_implies, not_true_eq_false, not_false_eq_true, am_ne_1_0, Int32.reduceLT, Int32.reduceLE]
      exact h
    · simp (disch := omega) only [wpY_getResource, q, nI_clamp, pk_us, am_uu, nI_1, nI_pred, am_ip, nI_add, am_m8, am_m4, vp_in_nI, true_and, and_true, forall_eq, true_implies, false_implies, not_true_eq_false, not_false_eq_true, am_ne_1_0, Int32.reduceLT, Int32.reduceLE]
      exact h
  · have hz : ¬ v1 < 0 := am_nb (M := 8) (by omega) q
    have q8 : 8 ≤ v1 := q
    have q7 : ¬ v1 ≤ 7 := Int32.not_le.mpr (Int32.lt_of_lt_of_le (by decide) q8)
    refine fin (-1) (fun post h => ?_) (fun post h => ?_)
    · simp (disch := omega) only [wpX_getResource, wpX_isResource, q8, q7, hz, nI_clamp, pk_us, am_uu, nI_1, nI_pred, am_ip, nI_add, am_m8, am_m4, vp_in_nI, true_and, and_true, forall_eq, true_implies, false_implies, not_true_eq_false, not_false_eq_true, am_ne_1_0, Int32.reduceLT, Int32.reduceLE]
      exact h
    · simp (disch := omega) only [wpY_getResource, q8, q7, hz, nI_clamp, pk_us, am_uu, nI_1, nI_pred, am_ip, nI_add, am_m8, am_m4, vp_in_nI, true_and, and_true, forall_eq, true_implies, false_implies, not_true_eq_false, not_false_eq_true, am_ne_1_0, Int32.reduceLT, Int32.reduceLE]
      exact h
  have e1 : ¬ nI t < 0 := nI_pos (by omega)
  have e2 : ¬ 8 ≤ nI t := nI_ge (b := 8) ht (by omega)
  have e3 : nI t ≤ 7 := nI_le (b := 7) (by omega) (by omega)
  by_cases f0 : v2 = 0
  · subst f0
    refine fin (ho t) (fun post h => ?_) (fun post h => ?_)
    · simp (disch := omega) only [wpX_getResource, wpX_isResource, e1, e2, e3, nI_clamp, pk_us, am_uu, nI_1, nI_pred, am_ip, nI_add, am_m8, am_m4, vp_in_nI, true_and, and_true, forall_eq, true_implies, false_implies, not_true_eq_false, not_false_eq_true, am_ne_1_0, Int32.reduceLT, Int32.reduceLE]
      exact h
    · simp (disch := omega) only [wpY_getResource, e1, e2, e3, nI_clamp, pk_us, am_uu, nI_1, nI_pred, am_ip, nI_add, am_m8, am_m4, vp_in_nI, true_and, and_true, forall_eq, true_implies, false_implies, not_true_eq_false, not_false_eq_true, am_ne_1_0, Int32.reduceLT, Int32.reduceLE]
      exact h
  by_cases f1 : v2 = 1
  · subst f1
    refine fin (aq t) (fun post h => ?_) (fun post h => ?_)
    · simp (disch := omega) only [wpX_getResource, wpX_isResource, e1, e2, e3, am_ne_1_0, nI_clamp, pk_us, am_uu, nI_1, nI_pred, am_ip, nI_add, am_m8, am_m4, vp_in_nI, true_and, and_true, forall_eq, true_implies, false_implies, not_true_eq_false, not_false_eq_true, am_ne_1_0, Int32.reduceLT, Int32.reduceLE]
      exact h
    · simp (disch := omega) only [wpY_getResource, e1, e2, e3, am_ne_1_0, nI_clamp, pk_us, am_uu, nI_1, nI_pred, am_ip, nI_add, am_m8, am_m4, vp_in_nI, true_and, and_true, forall_eq, true_implies, false_implies, not_true_eq_false, not_false_eq_true, am_ne_1_0, Int32.reduceLT, Int32.reduceLE]
      exact h
  by_cases f2 : v2 = 2
  · subst f2
    refine fin (rl t) (fun post h => ?_) (fun post h => ?_)
    · simp (disch := omega) only [wpX_getResource, wpX_isResource, e1, e2, e3, am_ne_2_0, am_ne_2_1, nI_clamp, pk_us, am_uu, nI_1, nI_pred, am_ip, nI_add, am_m8, am_m4, vp_in_nI, true_and, and_true, forall_eq, true_implies, false_implies, not_true_eq_false, not_false_eq_true, am_ne_1_0, Int32.reduceLT, Int32.reduceLE]
      exact h
    · simp (disch := omega) only [wpY_getResource, e1, e2, e3, am_ne_2_0, am_ne_2_1, nI_clamp, pk_us, am_uu, nI_1, nI_pred, am_ip, nI_add, am_m8, am_m4, vp_in_nI, true_and, and_true, forall_eq, true_implies, false_implies, not_true_eq_false, not_false_eq_true, am_ne_1_0, Int32.reduceLT, Int32.reduceLE]
      exact h
  by_cases g0 : v2 < 0
  · refine fin (-1) (fun post h => ?_) (fun post h => ?_)
    · simp (disch := omega) only [wpX_getResource, wpX_isResource, e1, e2, e3, g0, f0, f1, f2, nI_clamp, pk_us, am_uu, nI_1, nI_pred, am_ip, nI_add, am_m8, am_m4, vp_in_nI, true_and, and_true, forall_eq, true_implies, false_implies, not_true_eq_false, not_false_eq_true, am_ne_1_0, Int32.reduceLT, Int32.reduceLE]
      exact h
    · simp (disch := omega) only [wpY_getResource, e1, e2, e3, g0, f0, f1, f2, nI_clamp, pk_us, am_uu, nI_1, nI_pred, am_ip, nI_add, am_m8, am_m4, vp_in_nI, true_and, and_true, forall_eq, true_implies, false_implies, not_true_eq_false, not_false_eq_true, am_ne_1_0, Int32.reduceLT, Int32.reduceLE]
      exact h
  by_cases g1 : 2 < v2
  · refine fin (-1) (fun post h => ?_) (fun post h => ?_)
    · simp (disch := omega) only [wpX_getResource, wpX_isResource, e1, e2, e3, g0, g1, f0, f1, f2, nI_clamp, pk_us, am_uu, nI_1, nI_pred, am_ip, nI_add, am_m8, am_m4, vp_in_nI, true_and, and_true, forall_eq, true_implies, false_implies, not_true_eq_false, not_false_eq_true, am_ne_1_0, Int32.reduceLT, Int32.reduceLE]
      exact h
    · simp (disch := omega) only [wpY_getResource, e1, e2, e3, g0, g1, f0, f1, f2, nI_clamp, pk_us, am_uu, nI_1, nI_pred, am_ip, nI_add, am_m8, am_m4, vp_in_nI, true_and, and_true, forall_eq, true_implies, false_implies, not_true_eq_false, not_false_eq_true, am_ne_1_0, Int32.reduceLT, Int32.reduceLE]
      exact h
  exact am_no2 v2 g0 g1 f0 f1 f2
theorem i_vc_getCode {k : Nat} {u : SX} {v : SY} (I : i_Rel k u v) (hk : k + 4 ≤ 2050) (v1 : Int32) (v2 : Int32) : wpX_getCode (fun r => wpY_getCode (fun r' => r' = r ∧ i_Rel (k + 4) u v) v v1 v2) u v1 v2 := by
  obtain ⟨C, Z, N, M, co, ca, st, pc, mk, ex, sd, fd, pn, sk, fk, fa, fs, pX, pY, ho, aq, rl, rfl, rfl, hC, hZ, hN, hM, I, P⟩ := I
  have R : i_Rel (k + 4) (nI C, nI Z, nI N, nI M, co, ca, st, pc, mk, ex, sd, fd, pn, sk, fk, fa, fs, pX, ho, aq, rl) (nI C, nI Z, nI N, nI M, co, ca, st, pc, mk, ex, sd, fd, pn, sk, fk, fa, fs, pY, ho, aq, rl) := ⟨C, Z, N, M, co, ca, st, pc, mk, ex, sd, fd, pn, sk, fk, fa, fs, pX, pY, ho, aq, rl, rfl, rfl, hC, hZ, hN, hM, I, P⟩
  have fin : ∀ r : Int32, (∀ post : Int32 → Prop, post r → wpX_getCode post (nI C, nI Z, nI N, nI M, co, ca, st, pc, mk, ex, sd, fd, pn, sk, fk, fa, fs, pX, ho, aq, rl) v1 v2) → (∀ post : Int32 → Prop, post r → wpY_getCode post (nI C, nI Z, nI N, nI M, co, ca, st, pc, mk, ex, sd, fd, pn, sk, fk, fa, fs, pY, ho, aq, rl) v1 v2) → wpX_getCode (fun r => wpY_getCode (fun r' => r' = r ∧ i_Rel (k + 4) (nI C, nI Z, nI N, nI M, co, ca, st, pc, mk, ex, sd, fd, pn, sk, fk, fa, fs, pX, ho, aq, rl) (nI C, nI Z, nI N, nI M, co, ca, st, pc, mk, ex, sd, fd, pn, sk, fk, fa, fs, pY, ho, aq, rl)) (nI C, nI Z, nI N, nI M, co, ca, st, pc, mk, ex, sd, fd, pn, sk, fk, fa, fs, pY, ho, aq, rl) v1 v2) (nI C, nI Z, nI N, nI M, co, ca, st, pc, mk, ex, sd, fd, pn, sk, fk, fa, fs, pX, ho, aq, rl) v1 v2 := fun r hX hY => hX _ (hY _ ⟨rfl, R⟩)
  rcases pk_ix v1 (n := N) (by omega) with q | q | ⟨t, ht, rfl⟩
  · refine fin (-1) (fun post h => ?_) (fun post h => ?_)
    · simp (disch := omega) only [wpX_getCode, wpX_isCodeAddress, q, nI_clamp, pk_us, am_uu, nI_1, nI_pred, am_ip, nI_add, am_m8, am_m4, vp_in_nI, true_and, and_true, forall_eq, true_implies, false_implies, not_true_eq_false, not_false_eq_true, am_ne_1_0, Int32.reduceLT, Int32.reduceLE]
      exact h
    · simp (disch := omega) only [wpY_getCode, q, nI_clamp, pk_us, am_uu, nI_1, nI_pred, am_ip, nI_add, am_m8, am_m4, vp_in_nI, true_and, and_true, forall_eq, true_implies, false_implies, not_true_eq_false, not_false_eq_true, am_ne_1_0, Int32.reduceLT, Int32.reduceLE]
      exact h
  · have hz : ¬ v1 < 0 := am_nb (by omega) q
    have q7 : ¬ v1 < nI N := Int32.not_lt.mpr q
    refine fin (-1) (fun post h => ?_) (fun post h => ?_)
    · simp (disch := omega) only [wpX_getCode, wpX_isCodeAddress, q, q7, hz, nI_clamp, pk_us, am_uu, nI_1, nI_pred, am_ip, nI_add, am_m8, am_m4, vp_in_nI, true_and, and_true, forall_eq, true_implies, false_implies, not_true_eq_false, not_false_eq_true, am_ne_1_0, Int32.reduceLT, Int32.reduceLE]
      exact h
    · simp (disch := omega) only [wpY_getCode, q, q7, hz, nI_clamp, pk_us, am_uu, nI_1, nI_pred, am_ip, nI_add, am_m8, am_m4, vp_in_nI, true_and, and_true, forall_eq, true_implies, false_implies, not_true_eq_false, not_false_eq_true, am_ne_1_0, Int32.reduceLT, Int32.reduceLE]
      exact h
  have e1 : ¬ nI t < 0 := nI_pos (by omega)
  have e2 : ¬ nI N ≤ nI t := nI_ge ht (by omega)
  have e3 : nI t < nI N := nI_lt ht (by omega)
  by_cases f0 : v2 = 0
  · subst f0
    refine fin (co t) (fun post h => ?_) (fun post h => ?_)
    · simp (disch := omega) only [wpX_getCode, wpX_isCodeAddress, e1, e2, e3, nI_clamp, pk_us, am_uu, nI_1, nI_pred, am_ip, nI_add, am_m8, am_m4, vp_in_nI, true_and, and_true, forall_eq, true_implies, false_implies, not_true_eq_false, not_false_eq_true, am_ne_1_0, Int32.reduceLT, Int32.reduceLE]
      exact h
    · simp (disch := omega) only [wpY_getCode, e1, e2, e3, nI_clamp, pk_us, am_uu, nI_1, nI_pred, am_ip, nI_add, am_m8, am_m4, vp_in_nI, true_and, and_true, forall_eq, true_implies, false_implies, not_true_eq_false, not_false_eq_true, am_ne_1_0, Int32.reduceLT, Int32.reduceLE]
      exact h
  by_cases f1 : v2 = 1
  · subst f1
    refine fin (ca t) (fun post h => ?_) (fun post h => ?_)
    · simp (disch := omega) only [wpX_getCode, wpX_isCodeAddress, e1, e2, e3, am_ne_1_0, nI_clamp, pk_us, am_uu, nI_1, nI_pred, am_ip, nI_add, am_m8, am_m4, vp_in_nI, true_and, and_true, forall_eq, true_implies, false_implies, not_true_eq_false, not_false_eq_true, am_ne_1_0, Int32.reduceLT, Int32.reduceLE]
      exact h
    · simp (disch := omega) only [wpY_getCode, e1, e2, e3, am_ne_1_0, nI_clamp, pk_us, am_uu, nI_1, nI_pred, am_ip, nI_add, am_m8, am_m4, vp_in_nI, true_and, and_true, forall_eq, true_implies, false_implies, not_true_eq_false, not_false_eq_true, am_ne_1_0, Int32.reduceLT, Int32.reduceLE]
      exact h
  refine fin (-1) (fun post h => ?_) (fun post h => ?_)
  · simp (disch := omega) only [wpX_getCode, wpX_isCodeAddress, e1, e2, e3, f0, f1, nI_clamp, pk_us, am_uu, nI_1, nI_pred, am_ip, nI_add, am_m8, am_m4, vp_in_nI, true_and, and_true, forall_eq, true_implies, false_implies, not_true_eq_false, not_false_eq_true, am_ne_1_0, Int32.reduceLT, Int32.reduceLE]
    exact h
  · simp (disch := omega) only [wpY_getCode, e1, e2, e3, f0, f1, nI_clamp, pk_us, am_uu, nI_1, nI_pred, am_ip, nI_add, am_m8, am_m4, vp_in_nI, true_and, and_true, forall_eq, true_implies, false_implies, not_true_eq_false, not_false_eq_true, am_ne_1_0, Int32.reduceLT, Int32.reduceLE]
    exact h
