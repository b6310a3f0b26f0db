section
theorem am_uu {f : Nat → Int32} {k : Nat} {x y : Int32} : upd (upd f k x) k y = upd f k y := by
  funext j
  by_cases h : j = k
  · simp only [upd, h, if_true]
  · simp only [upd, if_neg h]
theorem am_uk {f : Nat → Int32} {k : Nat} {x : Int32} (hx : f k = x) : upd f k x = f := by
  funext j
  by_cases h : j = k
  · rw [h, pk_us, hx]
  · exact pk_un h
theorem am_m8 (t : Nat) : nI t * 8 = nI (t * 8) := pk_mul t 8
theorem am_m4 (t : Nat) : nI t * 4 = nI (t * 4) := pk_mul t 4
theorem am_eq {d b : Nat} {y : Int32} (hy : y = nI b) (h : d < 2 ^ 31) (hb : b < 2 ^ 31) : nI d = y ↔ d = b := by
  rw [hy]
  exact nI_eq h hb
theorem am_eq0 {d : Nat} (h : d < 2 ^ 31) : nI d = 0 ↔ d = 0 := am_eq rfl h (by omega)
theorem am_eq1 {d : Nat} (h : d < 2 ^ 31) : nI d = 1 ↔ d = 1 := am_eq rfl h (by omega)
theorem am_eq2 {d : Nat} (h : d < 2 ^ 31) : nI d = 2 ↔ d = 2 := am_eq rfl h (by omega)
theorem am_eq3 {d : Nat} (h : d < 2 ^ 31) : nI d = 3 ↔ d = 3 := am_eq rfl h (by omega)
theorem am_eq4 {d : Nat} (h : d < 2 ^ 31) : nI d = 4 ↔ d = 4 := am_eq rfl h (by omega)
theorem am_eq8 {d : Nat} (h : d < 2 ^ 31) : nI d = 8 ↔ d = 8 := am_eq rfl h (by omega)
theorem am_lt0 {d : Nat} (h : d < 2 ^ 31) : ¬ nI d < 0 := nI_pos h
theorem am_lt1 {d : Nat} (h : d < 2 ^ 31) : nI d < 1 ↔ d < 1 := nI_ltI (b := 1) h (by omega)
theorem am_lt2 {d : Nat} (h : d < 2 ^ 31) : nI d < 2 ↔ d < 2 := nI_ltI (b := 2) h (by omega)
theorem am_lt4 {d : Nat} (h : d < 2 ^ 31) : nI d < 4 ↔ d < 4 := nI_ltI (b := 4) h (by omega)
theorem am_lt8 {d : Nat} (h : d < 2 ^ 31) : nI d < 8 ↔ d < 8 := nI_ltI (b := 8) h (by omega)
theorem am_le0 {d : Nat} (h : d < 2 ^ 31) : nI d ≤ 0 ↔ d ≤ 0 := nI_leI (b := 0) h (by omega)
theorem am_ge1 {d : Nat} (h : d < 2 ^ 31) : 1 ≤ nI d ↔ 1 ≤ d := nI_leI (a := 1) (by omega) h
theorem am_ge4 {d : Nat} (h : d < 2 ^ 31) : 4 ≤ nI d ↔ 4 ≤ d := nI_leI (a := 4) (by omega) h
theorem am_ge8 {d : Nat} (h : d < 2 ^ 31) : 8 ≤ nI d ↔ 8 ≤ d := nI_leI (a := 8) (by omega) h
theorem am_nn {x y : Int32} (h : x < 0) (hy : 0 ≤ y) : x < y := Int32.lt_of_lt_of_le h hy
def am_B (n : Nat) (a : Nat → Int32) : Prop := ∀ j, ∃ d, d ≤ n ∧ a j = nI d
theorem am_B_u {n k d : Nat} {a : Nat → Int32} (h : am_B n a) (hd : d ≤ n) : am_B n (upd a k (nI d)) := by
  intro j
  by_cases e : j = k
  · exact ⟨d, hd, by rw [e, pk_us]⟩
  · rw [pk_un e]
    exact h j
def am_Z (M : Nat) (a : Nat → Int32) : Prop := ∀ j, M ≤ j → a j = 0
theorem am_Z_u {M k : Nat} {x : Int32} {a : Nat → Int32} (h : am_Z M a) (hk : k < M) : am_Z M (upd a k x) := by
  intro j hj
  rw [pk_un (by omega)]
  exact h j hj
theorem am_Z_s {M : Nat} {a : Nat → Int32} (h : am_Z M a) : am_Z (M + 1) a := fun j hj => h j (by omega)
def am_F (fk fa : Nat → Int32) : Prop := ∀ j, fk j = 3 → ∃ r, r < 8 ∧ fa j = nI r
theorem am_F_u {fk fa : Nat → Int32} {i : Nat} {x y : Int32} (h : am_F fk fa) (hx : x = 3 → ∃ r, r < 8 ∧ y = nI r) : am_F (upd fk i x) (upd fa i y) := by
  intro j hj
  by_cases e : j = i
  · rw [e, pk_us] at hj
    rw [e, pk_us]
    exact hx hj
  · rw [pk_un e] at hj
    rw [pk_un e]
    exact h j hj
def am_E (st ex : Nat → Int32) : Prop := ∀ j, st j = 1 → ex j = 0
theorem am_E_u {st ex : Nat → Int32} {t : Nat} {x y : Int32} (h : am_E st ex) (hx : ¬ x = 1) : am_E (upd st t x) (upd ex t y) := by
  intro j hj
  by_cases e : j = t
  · rw [e, pk_us] at hj
    exact absurd hj hx
  · rw [pk_un e] at hj
    rw [pk_un e]
    exact h j hj
theorem am_E_s {st ex : Nat → Int32} {t : Nat} {x : Int32} (h : am_E st ex) (hx : ex t = 0) : am_E (upd st t x) ex := by
  intro j hj
  by_cases e : j = t
  · rw [e]
    exact hx
  · rw [pk_un e] at hj
    exact h j hj
def am_I (M : Nat) (st mk ex sd fd pn fk fa : Nat → Int32) : Prop := M ≤ 4 ∧ am_B 8 sd ∧ am_B 8 fd ∧ am_B 4 pn ∧ am_F fk fa ∧ am_E st ex ∧ am_Z M mk ∧ am_Z M ex ∧ am_Z M sd ∧ am_Z M fd ∧ am_Z M pn
section
variable {M t d : Nat} {st mk ex sd fd pn fk fa : Nat → Int32} {x y : Int32}
theorem am_I_mk (I : am_I M st mk ex sd fd pn fk fa) (ht : t < M) : am_I M st (upd mk t x) ex sd fd pn fk fa := by
  obtain ⟨h1, h2, h3, h4, h5, h6, h7, h8, h9, h10, h11⟩ := I
  exact ⟨h1, h2, h3, h4, h5, h6, am_Z_u h7 ht, h8, h9, h10, h11⟩
theorem am_I_sd (I : am_I M st mk ex sd fd pn fk fa) (ht : t < M) (hd : d ≤ 8) : am_I M st mk ex (upd sd t (nI d)) fd pn fk fa := by
  obtain ⟨h1, h2, h3, h4, h5, h6, h7, h8, h9, h10, h11⟩ := I
  exact ⟨h1, am_B_u h2 hd, h3, h4, h5, h6, h7, h8, am_Z_u h9 ht, h10, h11⟩
theorem am_I_fd (I : am_I M st mk ex sd fd pn fk fa) (ht : t < M) (hd : d ≤ 8) : am_I M st mk ex sd (upd fd t (nI d)) pn fk fa := by
  obtain ⟨h1, h2, h3, h4, h5, h6, h7, h8, h9, h10, h11⟩ := I
  exact ⟨h1, h2, am_B_u h3 hd, h4, h5, h6, h7, h8, h9, am_Z_u h10 ht, h11⟩
theorem am_I_pn (I : am_I M st mk ex sd fd pn fk fa) (ht : t < M) (hd : d ≤ 4) : am_I M st mk ex sd fd (upd pn t (nI d)) fk fa := by
  obtain ⟨h1, h2, h3, h4, h5, h6, h7, h8, h9, h10, h11⟩ := I
  exact ⟨h1, h2, h3, am_B_u h4 hd, h5, h6, h7, h8, h9, h10, am_Z_u h11 ht⟩
theorem am_I_se (I : am_I M st mk ex sd fd pn fk fa) (ht : t < M) (hx : ¬ x = 1) : am_I M (upd st t x) mk (upd ex t y) sd fd pn fk fa := by
  obtain ⟨h1, h2, h3, h4, h5, h6, h7, h8, h9, h10, h11⟩ := I
  exact ⟨h1, h2, h3, h4, h5, am_E_u h6 hx, h7, am_Z_u h8 ht, h9, h10, h11⟩
theorem am_I_fr {i : Nat} (I : am_I M st mk ex sd fd pn fk fa) (hx : x = 3 → ∃ r, r < 8 ∧ y = nI r) : am_I M st mk ex sd fd pn (upd fk i x) (upd fa i y) := by
  obtain ⟨h1, h2, h3, h4, h5, h6, h7, h8, h9, h10, h11⟩ := I
  exact ⟨h1, h2, h3, h4, am_F_u h5 hx, h6, h7, h8, h9, h10, h11⟩
theorem am_I_sp (I : am_I M st mk ex sd fd pn fk fa) (hM : M < 4) : am_I (M + 1) (upd st M 1) mk ex sd fd pn fk fa := by
  obtain ⟨h1, h2, h3, h4, h5, h6, h7, h8, h9, h10, h11⟩ := I
  exact ⟨by omega, h2, h3, h4, h5, am_E_s h6 (h8 M (Nat.le_refl M)), am_Z_s h7, am_Z_s h8, am_Z_s h9, am_Z_s h10, am_Z_s h11⟩
end
theorem am_nb {M : Nat} {x : Int32} (hM : M < 2 ^ 31) (h : nI M ≤ x) : ¬ x < 0 := fun z => absurd (Int32.lt_of_le_of_lt h z) (nI_pos hM)
def am_fr (fd fk fa : Nat → Int32) (u j r : Nat) : Prop := ∃ d, d ≤ 8 ∧ fd u = nI d ∧ j < d ∧ fk (u * 8 + j) = 3 ∧ fa (u * 8 + j) = nI r
def am_K1 (b M : Nat) (st fd fk fa ho aq rl : Nat → Int32) (r : Nat) : Prop := ∃ a, a ≤ b ∧ aq r = nI a ∧ ((ho r = -1 ∧ rl r = nI a ∧ ∀ u j, u < 4 → ¬ am_fr fd fk fa u j r) ∨ (∃ h i c, h < M ∧ ho r = nI h ∧ a = c + 1 ∧ rl r = nI c ∧ st h = 1 ∧ am_fr fd fk fa h i r ∧ ∀ u j, u < 4 → am_fr fd fk fa u j r → u = h ∧ j = i))
def am_K (b M : Nat) (st fd fk fa ho aq rl : Nat → Int32) : Prop := ∀ r, r < 8 → am_K1 b M st fd fk fa ho aq rl r
theorem am_K1_m {b b' M M' r : Nat} {st fd fk fa ho aq rl st' fd' fk' fa' ho' aq' rl' : Nat → Int32} (h : am_K1 b M st fd fk fa ho aq rl r) (h4 : M ≤ 4) (hb : b ≤ b') (hM : M ≤ M') (hs : ∀ u j, u < M → am_fr fd fk fa u j r → st u = 1 → st' u = 1) (hf : ∀ u j, u < 4 → (am_fr fd' fk' fa' u j r ↔ am_fr fd fk fa u j r)) (e1 : ho' r = ho r) (e2 : aq' r = aq r) (e3 : rl' r = rl r) : am_K1 b' M' st' fd' fk' fa' ho' aq' rl' r := by
  obtain ⟨a, ha, h1, h2⟩ := h
  refine ⟨a, by omega, e2.trans h1, ?_⟩
  rcases h2 with ⟨g1, g2, g3⟩ | ⟨h, i, c, g1, g2, g3, g4, g5, g6, g7⟩
  · exact Or.inl ⟨e1.trans g1, e3.trans g2, fun u j hu z => g3 u j hu ((hf u j hu).mp z)⟩
  · exact Or.inr ⟨h, i, c, by omega, e1.trans g2, g3, e3.trans g4, hs h i g1 g6 g5, (hf h i (by omega)).mpr g6, fun u j hu z => g7 u j hu ((hf u j hu).mp z)⟩
section
variable {b M t d : Nat} {st fd fk fa ho aq rl : Nat → Int32} {x k : Int32}
theorem am_K_s (K : am_K b M st fd fk fa ho aq rl) (h4 : M ≤ 4) : am_K (b + 1) M st fd fk fa ho aq rl := fun r hr => am_K1_m (K r hr) h4 (by omega) (by omega) (fun _ _ _ _ h => h) (fun _ _ _ => Iff.rfl) rfl rfl rfl
theorem am_K_st (K : am_K b M st fd fk fa ho aq rl) (h4 : M ≤ 4) (hf : fd t = nI 0) : am_K b M (upd st t x) fd fk fa ho aq rl := by
  intro r hr
  refine am_K1_m (K r hr) h4 (by omega) (by omega) (fun u j hu hf' h => ?_) (fun _ _ _ => Iff.rfl) rfl rfl rfl
  by_cases e : u = t
  · obtain ⟨d, h1, h2, h3, -⟩ := hf'
    rw [e, hf, nI_eq (by omega) (by omega)] at h2
    omega
  · rw [pk_un e]
    exact h
theorem am_K_sp (K : am_K b M st fd fk fa ho aq rl) (h4 : M ≤ 4) : am_K b (M + 1) (upd st M x) fd fk fa ho aq rl := by
  intro r hr
  refine am_K1_m (K r hr) h4 (by omega) (by omega) (fun u j hu hf' h => ?_) (fun _ _ _ => Iff.rfl) rfl rfl rfl
  rw [pk_un (by omega)]
  exact h
theorem am_fr_pop {u j r : Nat} (hd : d < 8) (hf : fd t = nI (d + 1)) : am_fr (upd fd t (nI d)) fk fa u j r ↔ (am_fr fd fk fa u j r ∧ ¬ (u = t ∧ j = d)) := by
  by_cases e : u = t
  · subst e
    constructor
    · rintro ⟨c, h1, h2, h3, h4, h5⟩
      rw [pk_us, nI_eq (by omega) (by omega)] at h2
      exact ⟨⟨d + 1, by omega, hf, by omega, h4, h5⟩, by omega⟩
    · rintro ⟨⟨c, h1, h2, h3, h4, h5⟩, h6⟩
      rw [hf, nI_eq (by omega) (by omega)] at h2
      exact ⟨d, by omega, pk_us, by omega, h4, h5⟩
  · constructor
    · rintro ⟨c, h1, h2, h3, h4, h5⟩
      rw [pk_un e] at h2
      exact ⟨⟨c, h1, h2, h3, h4, h5⟩, fun z => e z.1⟩
    · rintro ⟨⟨c, h1, h2, h3, h4, h5⟩, h6⟩
      exact ⟨c, h1, by rw [pk_un e]; exact h2, h3, h4, h5⟩
theorem am_fr_push {u j r : Nat} (ht : t < 4) (hu : u < 4) (hd : d < 8) (hf : fd t = nI d) : am_fr (upd fd t (nI (d + 1))) (upd fk (t * 8 + d) k) (upd fa (t * 8 + d) x) u j r ↔ (am_fr fd fk fa u j r ∨ (u = t ∧ j = d ∧ k = 3 ∧ x = nI r)) := by
  by_cases e : u = t
  · subst e
    constructor
    · rintro ⟨c, h1, h2, h3, h4, h5⟩
      rw [pk_us, nI_eq (by omega) (by omega)] at h2
      by_cases w : j = d
      · rw [w, pk_us] at h4 h5
        exact Or.inr ⟨rfl, w, h4, h5⟩
      · rw [pk_un (by omega)] at h4 h5
        exact Or.inl ⟨d, by omega, hf, by omega, h4, h5⟩
    · rintro (⟨c, h1, h2, h3, h4, h5⟩ | ⟨-, w, h4, h5⟩)
      · rw [hf, nI_eq (by omega) (by omega)] at h2
        exact ⟨d + 1, by omega, pk_us, by omega, by rw [pk_un (by omega)]; exact h4, by rw [pk_un (by omega)]; exact h5⟩
      · exact ⟨d + 1, by omega, pk_us, by omega, by rw [w, pk_us]; exact h4, by rw [w, pk_us]; exact h5⟩
  · constructor
    · rintro ⟨c, h1, h2, h3, h4, h5⟩
      rw [pk_un e] at h2
      rw [pk_un (by omega)] at h4 h5
      exact Or.inl ⟨c, h1, h2, h3, h4, h5⟩
    · rintro (⟨c, h1, h2, h3, h4, h5⟩ | ⟨w, -⟩)
      · exact ⟨c, h1, by rw [pk_un e]; exact h2, h3, by rw [pk_un (by omega)]; exact h4, by rw [pk_un (by omega)]; exact h5⟩
      · exact absurd w e
theorem am_K_pf (K : am_K b M st fd fk fa ho aq rl) (h4 : M ≤ 4) (ht : t < 4) (hd : d < 8) (hf : fd t = nI d) (hk : ¬ k = 3) : am_K b M st (upd fd t (nI (d + 1))) (upd fk (t * 8 + d) k) (upd fa (t * 8 + d) x) ho aq rl := by
  intro r hr
  refine am_K1_m (K r hr) h4 (by omega) (by omega) (fun _ _ _ _ h => h) (fun u j hu => ?_) rfl rfl rfl
  rw [am_fr_push ht hu hd hf]
  exact ⟨fun z => z.elim id (fun w => absurd w.2.2.1 hk), Or.inl⟩
theorem am_m1 {h : Nat} (hh : h < 2 ^ 31) : ¬ nI h = -1 := fun e => nI_pos hh (by rw [e]; decide)
theorem am_K_br {r : Nat} (K : am_K b M st fd fk fa ho aq rl) (h4 : M ≤ 4) (ht : t < M) (hd : d < 8) (hf : fd t = nI d) (hr : r < 8) (ho1 : ho r = -1) (hs : st t = 1) : am_K (b + 1) M st (upd fd t (nI (d + 1))) (upd fk (t * 8 + d) 3) (upd fa (t * 8 + d) (nI r)) (upd ho r (nI t)) (upd aq r (aq r + 1)) rl := by
  intro q hq
  by_cases e : q = r
  · subst e
    obtain ⟨a, h1, h2, h3⟩ := K q hq
    rcases h3 with ⟨g1, g2, g3⟩ | ⟨h, i, c, g1, g2, -⟩
    · refine ⟨a + 1, by omega, by rw [pk_us, h2, nI_1], Or.inr ⟨t, d, a, ht, pk_us, rfl, g2, hs, ?_, fun u j hu z => ?_⟩⟩
      · rw [am_fr_push (by omega) (by omega) hd hf]
        exact Or.inr ⟨rfl, rfl, rfl, rfl⟩
      · rw [am_fr_push (by omega) hu hd hf] at z
        rcases z with z | ⟨z1, z2, -⟩
        · exact absurd z (g3 u j hu)
        · exact ⟨z1, z2⟩
    · rw [ho1] at g2
      exact absurd g2.symm (am_m1 (by omega))
  · refine am_K1_m (K q hq) h4 (by omega) (by omega) (fun _ _ _ _ h => h) (fun u j hu => ?_) (pk_un e) (pk_un e) rfl
    rw [am_fr_push (by omega) hu hd hf]
    refine ⟨fun z => z.elim id (fun w => ?_), Or.inl⟩
    exact absurd ((nI_eq (by omega) (by omega)).mp w.2.2.2).symm e
def am_ho (fk fa ho : Nat → Int32) (i : Nat) : Nat → Int32 := if fk i = 3 then upd ho (fa i).toNatClampNeg (-1) else ho
def am_rl (fk fa rl : Nat → Int32) (i : Nat) : Nat → Int32 := if fk i = 3 then upd rl (fa i).toNatClampNeg (rl (fa i).toNatClampNeg + 1) else rl
theorem am_K_pop (K : am_K b M st fd fk fa ho aq rl) (hF : am_F fk fa) (h4 : M ≤ 4) (ht : t < 4) (hd : d < 8) (hf : fd t = nI (d + 1)) : am_K b M st (upd fd t (nI d)) fk fa (am_ho fk fa ho (t * 8 + d)) aq (am_rl fk fa rl (t * 8 + d)) := by
  intro r hr
  by_cases hb : fk (t * 8 + d) = 3 ∧ fa (t * 8 + d) = nI r
  · obtain ⟨b1, b2⟩ := hb
    have hfr : am_fr fd fk fa t d r := ⟨d + 1, by omega, hf, by omega, b1, b2⟩
    obtain ⟨a, h1, h2, h3⟩ := K r hr
    rcases h3 with ⟨g1, g2, g3⟩ | ⟨h, i, c, g1, g2, g3, g4, g5, g6, g7⟩
    · exact absurd hfr (g3 t d ht)
    · obtain ⟨q1, q2⟩ := g7 t d ht hfr
      refine ⟨a, h1, h2, Or.inl ⟨?_, ?_, fun u j hu z => ?_⟩⟩
      · simp (disch := omega) only [am_ho, b1, b2, if_true, nI_clamp, pk_us]
      · simp (disch := omega) only [am_rl, b1, b2, if_true, nI_clamp, pk_us, g4, g3, nI_1]
      · rw [am_fr_pop hd hf] at z
        obtain ⟨w1, w2⟩ := g7 u j hu z.1
        exact z.2 ⟨w1.trans q1.symm, w2.trans q2.symm⟩
  · have e : ∀ f : Nat → Int32, ∀ y : Int32, fk (t * 8 + d) = 3 → upd f (fa (t * 8 + d)).toNatClampNeg y r = f r := by
      intro f y h3
      obtain ⟨q, hq, hfa⟩ := hF _ h3
      rw [hfa, nI_clamp (by omega)]
      refine pk_un fun z => hb ⟨h3, ?_⟩
      rw [hfa, z]
    refine am_K1_m (K r hr) h4 (by omega) (by omega) (fun _ _ _ _ h => h) (fun u j hu => ?_) ?_ rfl ?_
    · rw [am_fr_pop hd hf]
      refine ⟨fun z => z.1, fun z => ⟨z, fun w => hb ?_⟩⟩
      obtain ⟨c, h1, h2, h3, h5, h6⟩ := z
      rw [w.1, w.2] at h5 h6
      exact ⟨h5, h6⟩
    · by_cases h3 : fk (t * 8 + d) = 3
      · rw [am_ho, if_pos h3]
        exact e _ _ h3
      · rw [am_ho, if_neg h3]
    · by_cases h3 : fk (t * 8 + d) = 3
      · rw [am_rl, if_pos h3]
        exact e _ _ h3
      · rw [am_rl, if_neg h3]
end
end
section
theorem am_ne_1_0 : ¬ (1 : Int32) = 0 := by decide
theorem am_ne_2_0 : ¬ (2 : Int32) = 0 := by decide
theorem am_ne_2_1 : ¬ (2 : Int32) = 1 := by decide
theorem am_ne_3_0 : ¬ (3 : Int32) = 0 := by decide
theorem am_ne_3_1 : ¬ (3 : Int32) = 1 := by decide
theorem am_ne_3_2 : ¬ (3 : Int32) = 2 := by decide
theorem am_ne_4_0 : ¬ (4 : Int32) = 0 := by decide
theorem am_ne_4_1 : ¬ (4 : Int32) = 1 := by decide
theorem am_ne_4_2 : ¬ (4 : Int32) = 2 := by decide
theorem am_ne_4_3 : ¬ (4 : Int32) = 3 := by decide
theorem am_ne_5_0 : ¬ (5 : Int32) = 0 := by decide
theorem am_ne_5_1 : ¬ (5 : Int32) = 1 := by decide
theorem am_ne_5_2 : ¬ (5 : Int32) = 2 := by decide
theorem am_ne_5_3 : ¬ (5 : Int32) = 3 := by decide
theorem am_ne_5_4 : ¬ (5 : Int32) = 4 := by decide
theorem am_ne_6_0 : ¬ (6 : Int32) = 0 := by decide
theorem am_ne_6_1 : ¬ (6 : Int32) = 1 := by decide
theorem am_ne_6_2 : ¬ (6 : Int32) = 2 := by decide
theorem am_ne_6_3 : ¬ (6 : Int32) = 3 := by decide
theorem am_ne_6_4 : ¬ (6 : Int32) = 4 := by decide
theorem am_ne_6_5 : ¬ (6 : Int32) = 5 := by decide
theorem am_ne_7_0 : ¬ (7 : Int32) = 0 := by decide
theorem am_ne_7_1 : ¬ (7 : Int32) = 1 := by decide
theorem am_ne_7_2 : ¬ (7 : Int32) = 2 := by decide
theorem am_ne_7_3 : ¬ (7 : Int32) = 3 := by decide
theorem am_ne_7_4 : ¬ (7 : Int32) = 4 := by decide
theorem am_ne_7_5 : ¬ (7 : Int32) = 5 := by decide
theorem am_ne_7_6 : ¬ (7 : Int32) = 6 := by decide
theorem am_ne_8_0 : ¬ (8 : Int32) = 0 := by decide
theorem am_ne_8_1 : ¬ (8 : Int32) = 1 := by decide
theorem am_ne_8_2 : ¬ (8 : Int32) = 2 := by decide
theorem am_ne_8_3 : ¬ (8 : Int32) = 3 := by decide
theorem am_ne_8_4 : ¬ (8 : Int32) = 4 := by decide
theorem am_ne_8_5 : ¬ (8 : Int32) = 5 := by decide
theorem am_ne_8_6 : ¬ (8 : Int32) = 6 := by decide
theorem am_ne_8_7 : ¬ (8 : Int32) = 7 := by decide
theorem am_ne_9_0 : ¬ (9 : Int32) = 0 := by decide
theorem am_ne_9_1 : ¬ (9 : Int32) = 1 := by decide
theorem am_ne_9_2 : ¬ (9 : Int32) = 2 := by decide
theorem am_ne_9_3 : ¬ (9 : Int32) = 3 := by decide
theorem am_ne_9_4 : ¬ (9 : Int32) = 4 := by decide
theorem am_ne_9_5 : ¬ (9 : Int32) = 5 := by decide
theorem am_ne_9_6 : ¬ (9 : Int32) = 6 := by decide
theorem am_ne_9_7 : ¬ (9 : Int32) = 7 := by decide
theorem am_ne_9_8 : ¬ (9 : Int32) = 8 := by decide
theorem am_ne_10_0 : ¬ (10 : Int32) = 0 := by decide
theorem am_ne_10_1 : ¬ (10 : Int32) = 1 := by decide
theorem am_ne_10_2 : ¬ (10 : Int32) = 2 := by decide
theorem am_ne_10_3 : ¬ (10 : Int32) = 3 := by decide
theorem am_ne_10_4 : ¬ (10 : Int32) = 4 := by decide
theorem am_ne_10_5 : ¬ (10 : Int32) = 5 := by decide
theorem am_ne_10_6 : ¬ (10 : Int32) = 6 := by decide
theorem am_ne_10_7 : ¬ (10 : Int32) = 7 := by decide
theorem am_ne_10_8 : ¬ (10 : Int32) = 8 := by decide
theorem am_ne_10_9 : ¬ (10 : Int32) = 9 := by decide
theorem am_ne_11_0 : ¬ (11 : Int32) = 0 := by decide
theorem am_ne_11_1 : ¬ (11 : Int32) = 1 := by decide
theorem am_ne_11_2 : ¬ (11 : Int32) = 2 := by decide
theorem am_ne_11_3 : ¬ (11 : Int32) = 3 := by decide
theorem am_ne_11_4 : ¬ (11 : Int32) = 4 := by decide
theorem am_ne_11_5 : ¬ (11 : Int32) = 5 := by decide
theorem am_ne_11_6 : ¬ (11 : Int32) = 6 := by decide
theorem am_ne_11_7 : ¬ (11 : Int32) = 7 := by decide
theorem am_ne_11_8 : ¬ (11 : Int32) = 8 := by decide
theorem am_ne_11_9 : ¬ (11 : Int32) = 9 := by decide
theorem am_ne_11_10 : ¬ (11 : Int32) = 10 := by decide
theorem am_ne_12_0 : ¬ (12 : Int32) = 0 := by decide
theorem am_ne_12_1 : ¬ (12 : Int32) = 1 := by decide
theorem am_ne_12_2 : ¬ (12 : Int32) = 2 := by decide
theorem am_ne_12_3 : ¬ (12 : Int32) = 3 := by decide
theorem am_ne_12_4 : ¬ (12 : Int32) = 4 := by decide
theorem am_ne_12_5 : ¬ (12 : Int32) = 5 := by decide
theorem am_ne_12_6 : ¬ (12 : Int32) = 6 := by decide
theorem am_ne_12_7 : ¬ (12 : Int32) = 7 := by decide
theorem am_ne_12_8 : ¬ (12 : Int32) = 8 := by decide
theorem am_ne_12_9 : ¬ (12 : Int32) = 9 := by decide
theorem am_ne_12_10 : ¬ (12 : Int32) = 10 := by decide
theorem am_ne_12_11 : ¬ (12 : Int32) = 11 := by decide
theorem am_ne_13_0 : ¬ (13 : Int32) = 0 := by decide
theorem am_ne_13_1 : ¬ (13 : Int32) = 1 := by decide
theorem am_ne_13_2 : ¬ (13 : Int32) = 2 := by decide
theorem am_ne_13_3 : ¬ (13 : Int32) = 3 := by decide
theorem am_ne_13_4 : ¬ (13 : Int32) = 4 := by decide
theorem am_ne_13_5 : ¬ (13 : Int32) = 5 := by decide
theorem am_ne_13_6 : ¬ (13 : Int32) = 6 := by decide
theorem am_ne_13_7 : ¬ (13 : Int32) = 7 := by decide
theorem am_ne_13_8 : ¬ (13 : Int32) = 8 := by decide
theorem am_ne_13_9 : ¬ (13 : Int32) = 9 := by decide
theorem am_ne_13_10 : ¬ (13 : Int32) = 10 := by decide
theorem am_ne_13_11 : ¬ (13 : Int32) = 11 := by decide
theorem am_ne_13_12 : ¬ (13 : Int32) = 12 := by decide
theorem am_ne_14_0 : ¬ (14 : Int32) = 0 := by decide
theorem am_ne_14_1 : ¬ (14 : Int32) = 1 := by decide
theorem am_ne_14_2 : ¬ (14 : Int32) = 2 := by decide
theorem am_ne_14_3 : ¬ (14 : Int32) = 3 := by decide
theorem am_ne_14_4 : ¬ (14 : Int32) = 4 := by decide
theorem am_ne_14_5 : ¬ (14 : Int32) = 5 := by decide
theorem am_ne_14_6 : ¬ (14 : Int32) = 6 := by decide
theorem am_ne_14_7 : ¬ (14 : Int32) = 7 := by decide
theorem am_ne_14_8 : ¬ (14 : Int32) = 8 := by decide
theorem am_ne_14_9 : ¬ (14 : Int32) = 9 := by decide
theorem am_ne_14_10 : ¬ (14 : Int32) = 10 := by decide
theorem am_ne_14_11 : ¬ (14 : Int32) = 11 := by decide
theorem am_ne_14_12 : ¬ (14 : Int32) = 12 := by decide
theorem am_ne_14_13 : ¬ (14 : Int32) = 13 := by decide
theorem am_ne_15_0 : ¬ (15 : Int32) = 0 := by decide
theorem am_ne_15_1 : ¬ (15 : Int32) = 1 := by decide
theorem am_ne_15_2 : ¬ (15 : Int32) = 2 := by decide
theorem am_ne_15_3 : ¬ (15 : Int32) = 3 := by decide
theorem am_ne_15_4 : ¬ (15 : Int32) = 4 := by decide
theorem am_ne_15_5 : ¬ (15 : Int32) = 5 := by decide
theorem am_ne_15_6 : ¬ (15 : Int32) = 6 := by decide
theorem am_ne_15_7 : ¬ (15 : Int32) = 7 := by decide
theorem am_ne_15_8 : ¬ (15 : Int32) = 8 := by decide
theorem am_ne_15_9 : ¬ (15 : Int32) = 9 := by decide
theorem am_ne_15_10 : ¬ (15 : Int32) = 10 := by decide
theorem am_ne_15_11 : ¬ (15 : Int32) = 11 := by decide
theorem am_ne_15_12 : ¬ (15 : Int32) = 12 := by decide
theorem am_ne_15_13 : ¬ (15 : Int32) = 13 := by decide
theorem am_ne_15_14 : ¬ (15 : Int32) = 14 := by decide
theorem am_ip (a d : Nat) : nI (a + (d + 1)) - 1 = nI (a + d) := nI_pred (a + d)
def am_Out (b C Z N M : Nat) (co ca : Nat → Int32) (WX : (St2 → Prop) → Prop) : Prop := ∃ st pc mk ex sd fd pn sk fk fa fs pd ho aq rl : Nat → Int32, am_I M st mk ex sd fd pn fk fa ∧ am_K b M st fd fk fa ho aq rl ∧ (∀ post : St2 → Prop, post (nI C, nI Z, nI N, nI M, co, ca, st, pc, mk, ex, sd, fd, pn, sk, fk, fa, fs, pd, ho, aq, rl) → WX post)
section
variable {b C Z N M t p d : Nat} {co ca st pc mk ex sd fd pn sk fk fa fs pd ho aq rl : Nat → Int32}
theorem am_X_pop (hF : am_F fk fa) (ht : t < 4) (hd : d < 8) (hf : fd t = nI (d + 1)) {post : Int32 → St2 → Prop} (h : post (nI (t * 8 + d)) (nI C, nI Z, nI N, nI M, co, ca, st, pc, (upd mk t (fs (t * 8 + d))), ex, sd, (upd fd t (nI d)), pn, sk, fk, fa, fs, pd, (am_ho fk fa ho (t * 8 + d)), aq, (am_rl fk fa rl (t * 8 + d)))) : wpX_popFrame post (nI C, nI Z, nI N, nI M, co, ca, st, pc, mk, ex, sd, fd, pn, sk, fk, fa, fs, pd, ho, aq, rl) (nI t) := by
  by_cases hk : fk (t * 8 + d) = 3
  · obtain ⟨r, hr, hfa⟩ := hF _ hk
    simp (disch := omega) only [am_ho, am_rl, hk, hfa, if_true, nI_clamp, pk_us, am_uu, nI_1, nI_pred, am_ip, nI_add, am_m8, am_m4, vp_in_nI, true_and, and_true, forall_eq, true_implies, false_implies, not_true_eq_false, not_false_eq_true, am_ne_1_0, Int32.reduceLT, Int32.reduceLE] at h
    simp (disch := omega) only [wpX_popFrame, hf, hk, hfa, nI_clamp, pk_us, am_uu, nI_1, nI_pred, am_ip, nI_add, am_m8, am_m4, vp_in_nI, true_and, and_true, forall_eq, true_implies, false_implies, not_true_eq_false, not_false_eq_true, am_ne_1_0, Int32.reduceLT, Int32.reduceLE]
    exact h
  · simp only [am_ho, am_rl, hk, if_false] at h
    simp (disch := omega) only [wpX_popFrame, hf, hk, nI_clamp, pk_us, am_uu, nI_1, nI_pred, am_ip, nI_add, am_m8, am_m4, vp_in_nI, true_and, and_true, forall_eq, true_implies, false_implies, not_true_eq_false, not_false_eq_true, am_ne_1_0, Int32.reduceLT, Int32.reduceLE]
    exact h
theorem am_X_fin {x e : Int32} (ht : t < 4) {post : St2 → Prop} (h : post (nI C, nI Z, nI N, nI M, co, ca, (upd st t x), pc, mk, (upd ex t e), (upd sd t 0), fd, (upd pn t 0), sk, fk, fa, fs, pd, ho, aq, rl)) : wpX_finish post (nI C, nI Z, nI N, nI M, co, ca, st, pc, mk, ex, sd, fd, pn, sk, fk, fa, fs, pd, ho, aq, rl) (nI t) x e := by
  simp (disch := omega) only [wpX_finish, nI_clamp, pk_us, am_uu, nI_1, nI_pred, am_ip, nI_add, am_m8, am_m4, vp_in_nI, true_and, and_true, forall_eq, true_implies, false_implies, not_true_eq_false, not_false_eq_true, am_ne_1_0, Int32.reduceLT, Int32.reduceLE]
  exact h
theorem am_ra {e : Int32} (ht : t < M) : ∀ (d : Nat) (mk fd ho rl : Nat → Int32), d ≤ 8 → fd t = nI d → am_I M st mk ex sd fd pn fk fa → am_K b M st fd fk fa ho aq rl → am_Out b C Z N M co ca (fun post => ∀ f, d < f → wX_raise_7 post (nI t) e f (nI d) (nI C) (nI Z) (nI N) (nI M) co ca st pc mk ex sd fd pn sk fk fa fs pd ho aq rl) := by
  intro d
  induction d with
  | zero =>
    intro mk fd ho rl hd hf I K
    have hM := I.1
    refine ⟨(upd st t 3), pc, mk, (upd ex t e), (upd sd t 0), fd, (upd pn t 0), sk, fk, fa, fs, pd, ho, aq, rl, ?_, am_K_st K hM hf, fun post h f hf' => ?_⟩
    · exact am_I_pn (d := 0) (am_I_sd (d := 0) (am_I_se I ht (by decide)) ht (by omega)) ht (by omega)
    · obtain ⟨f, rfl⟩ : ∃ g, f = g + 1 := ⟨f - 1, by omega⟩
      rw [wX_raise_7]
      refine br_t (by decide) (am_X_fin (by omega) ?_)
      exact h
  | succ d ih =>
    intro mk fd ho rl hd hf I K
    have hM := I.1
    have hF := I.2.2.2.2.1
    have I' := am_I_fd (d := d) (am_I_mk (x := fs (t * 8 + d)) I ht) ht (by omega)
    have K' := am_K_pop K hF hM (by omega) (by omega) hf
    by_cases hk : fk (t * 8 + d) = 1
    · refine ⟨st, (upd pc t (fa (t * 8 + d))), (upd mk t (fs (t * 8 + d))), ex, (upd sd t 1), (upd fd t (nI d)), pn, (upd sk (t * 8) e), fk, fa, fs, pd, (am_ho fk fa ho (t * 8 + d)), aq, (am_rl fk fa rl (t * 8 + d)), am_I_sd (d := 1) I' ht (by omega), K', fun post h f hf' => ?_⟩
      obtain ⟨f, rfl⟩ : ∃ g, f = g + 1 := ⟨f - 1, by omega⟩
      rw [wX_raise_7]
      refine br_f (nI_nle (by omega) (by omega)) (am_X_pop hF (by omega) (by omega) hf ?_)
      simp (disch := omega) only [hk, nI_clamp, pk_us, am_uu, nI_1, nI_pred, am_ip, nI_add, am_m8, am_m4, vp_in_nI, true_and, and_true, forall_eq, true_implies, false_implies, not_true_eq_false, not_false_eq_true, am_ne_1_0, Int32.reduceLT, Int32.reduceLE]
      exact h
    · obtain ⟨st', pc', mk', ex', sd', fd', pn', sk', fk', fa', fs', pd', ho', aq', rl', hI', hK', hX'⟩ := ih _ _ _ _ (by omega) pk_us I' K'
      refine ⟨st', pc', mk', ex', sd', fd', pn', sk', fk', fa', fs', pd', ho', aq', rl', hI', hK', fun post h f hf' => ?_⟩
      obtain ⟨f, rfl⟩ : ∃ g, f = g + 1 := ⟨f - 1, by omega⟩
      rw [wX_raise_7]
      refine br_f (nI_nle (by omega) (by omega)) (am_X_pop hF (by omega) (by omega) hf ?_)
      simp (disch := omega) only [hk, pk_m1, nI_clamp, pk_us, am_uu, nI_1, nI_pred, am_ip, nI_add, am_m8, am_m4, vp_in_nI, true_and, and_true, forall_eq, true_implies, false_implies, not_true_eq_false, not_false_eq_true, am_ne_1_0, Int32.reduceLT, Int32.reduceLE]
      exact hX' post h f (by omega)
theorem am_raise {e : Int32} (I : am_I M st mk ex sd fd pn fk fa) (K : am_K b M st fd fk fa ho aq rl) (ht : t < M) : am_Out b C Z N M co ca (fun post => wpX_raise post (nI C, nI Z, nI N, nI M, co, ca, st, pc, mk, ex, sd, fd, pn, sk, fk, fa, fs, pd, ho, aq, rl) (nI t) e) := by
  obtain ⟨d, hd, hf⟩ := I.2.2.1 t
  have hM := I.1
  obtain ⟨st', pc', mk', ex', sd', fd', pn', sk', fk', fa', fs', pd', ho', aq', rl', hI', hK', hX'⟩ := am_ra (e := e) (pc := pc) (sk := sk) (fs := fs) (pd := pd) ht d mk fd ho rl hd hf I K
  refine ⟨st', pc', mk', ex', sd', fd', pn', sk', fk', fa', fs', pd', ho', aq', rl', hI', hK', fun post h => ?_⟩
  simp (disch := omega) only [wpX_raise, hf, nI_clamp, pk_us, am_uu, nI_1, nI_pred, am_ip, nI_add, am_m8, am_m4, vp_in_nI, true_and, and_true, forall_eq, true_implies, false_implies, not_true_eq_false, not_false_eq_true, am_ne_1_0, Int32.reduceLT, Int32.reduceLE]
  exact ⟨d + 1, hX' post h (d + 1) (by omega)⟩
theorem am_ha (ht : t < M) (hx : ex t = 0) : ∀ (d : Nat) (mk fd ho rl : Nat → Int32), d ≤ 8 → fd t = nI d → am_I M st mk ex sd fd pn fk fa → am_K b M st fd fk fa ho aq rl → am_Out b C Z N M co ca (fun post => ∀ f, d < f → wX_halt_7 post (nI t) f (nI d) (nI C) (nI Z) (nI N) (nI M) co ca st pc mk ex sd fd pn sk fk fa fs pd ho aq rl) := by
  intro d
  induction d with
  | zero =>
    intro mk fd ho rl hd hf I K
    have hM := I.1
    refine ⟨(upd st t 2), pc, mk, (upd ex t 0), (upd sd t 0), fd, (upd pn t 0), sk, fk, fa, fs, pd, ho, aq, rl, ?_, am_K_st K hM hf, fun post h f hf' => ?_⟩
    · exact am_I_pn (d := 0) (am_I_sd (d := 0) (am_I_se I ht (by decide)) ht (by omega)) ht (by omega)
    · obtain ⟨f, rfl⟩ : ∃ g, f = g + 1 := ⟨f - 1, by omega⟩
      rw [wX_halt_7]
      refine br_t (by decide) (am_X_fin (by omega) ?_)
      exact h
  | succ d ih =>
    intro mk fd ho rl hd hf I K
    have hM := I.1
    have hF := I.2.2.2.2.1
    have I' := am_I_fd (d := d) (am_I_mk (x := fs (t * 8 + d)) I ht) ht (by omega)
    have K' := am_K_pop K hF hM (by omega) (by omega) hf
    obtain ⟨st', pc', mk', ex', sd', fd', pn', sk', fk', fa', fs', pd', ho', aq', rl', hI', hK', hX'⟩ := ih _ _ _ _ (by omega) pk_us I' K'
    refine ⟨st', pc', mk', ex', sd', fd', pn', sk', fk', fa', fs', pd', ho', aq', rl', hI', hK', fun post h f hf' => ?_⟩
    obtain ⟨f, rfl⟩ : ∃ g, f = g + 1 := ⟨f - 1, by omega⟩
    rw [wX_halt_7]
    refine br_f (nI_nle (by omega) (by omega)) (am_X_pop hF (by omega) (by omega) hf ?_)
    simp (disch := omega) only [pk_m1, nI_clamp, pk_us, am_uu, nI_1, nI_pred, am_ip, nI_add, am_m8, am_m4, vp_in_nI, true_and, and_true, forall_eq, true_implies, false_implies, not_true_eq_false, not_false_eq_true, am_ne_1_0, Int32.reduceLT, Int32.reduceLE]
    exact hX' post h f (by omega)
end
end
section
section
variable {b C Z N M t p d : Nat} {co ca st pc mk ex sd fd pn sk fk fa fs pd ho aq rl : Nat → Int32}
theorem am_op_push_full (I : am_I M st mk ex sd fd pn fk fa) (K : am_K b M st fd fk fa ho aq rl) (ht : t < M) (hN : N ≤ 64) (hp : p < N) (hpc : pc t = nI p) (hop : co p = 1) (hs : sd t = 8) : am_Out (b + 1) C Z N M co ca (fun post => wpX_execute post (nI C, nI Z, nI N, nI M, co, ca, st, pc, mk, ex, sd, fd, pn, sk, fk, fa, fs, pd, ho, aq, rl) (nI t)) := by
  have hM := I.1
  obtain ⟨st', pc', mk', ex', sd', fd', pn', sk', fk', fa', fs', pd', ho', aq', rl', hI', hK', hX'⟩ := am_raise (C := C) (Z := Z) (N := N) (co := co) (ca := ca) (pc := (upd pc t (nI (p + 1)))) (sk := sk) (fs := fs) (pd := pd) (e := (-2)) I (am_K_s K hM) ht
  refine ⟨st', pc', mk', ex', sd', fd', pn', sk', fk', fa', fs', pd', ho', aq', rl', hI', hK', fun post h => ?_⟩
  simp (disch := omega) only [wpX_execute, wpX_push, hpc, hop, hs, nI_clamp, pk_us, am_uu, nI_1, nI_pred, am_ip, nI_add, am_m8, am_m4, vp_in_nI, true_and, and_true, forall_eq, true_implies, false_implies, not_true_eq_false, not_false_eq_true, am_ne_1_0, Int32.reduceLT, Int32.reduceLE]
  exact hX' _ h
theorem am_op_push (I : am_I M st mk ex sd fd pn fk fa) (K : am_K b M st fd fk fa ho aq rl) (ht : t < M) (hN : N ≤ 64) (hp : p < N) (hpc : pc t = nI p) (hop : co p = 1) (hs : sd t = nI d) (hd : d < 8) : am_Out (b + 1) C Z N M co ca (fun post => wpX_execute post (nI C, nI Z, nI N, nI M, co, ca, st, pc, mk, ex, sd, fd, pn, sk, fk, fa, fs, pd, ho, aq, rl) (nI t)) := by
  have hM := I.1
  have q8 : ¬ nI (d) = 8 := fun q => by rw [am_eq8 (by omega)] at q; omega
  have K1 := am_K_s K hM
  refine ⟨st, (upd pc t (nI (p + 1))), mk, ex, (upd sd t (nI (d + 1))), fd, pn, (upd sk (t * 8 + d) (ca p)), fk, fa, fs, pd, ho, aq, rl, (am_I_sd (d := (d + 1)) I ht (by omega)), K1, fun post h => ?_⟩
  simp (disch := omega) only [wpX_execute, wpX_push, hpc, hop, hs, q8, nI_clamp, pk_us, am_uu, nI_1, nI_pred, am_ip, nI_add, am_m8, am_m4, vp_in_nI, true_and, and_true, forall_eq, true_implies, false_implies, not_true_eq_false, not_false_eq_true, am_ne_1_0, Int32.reduceLT, Int32.reduceLE]
  exact h
theorem am_op_myid_full (I : am_I M st mk ex sd fd pn fk fa) (K : am_K b M st fd fk fa ho aq rl) (ht : t < M) (hN : N ≤ 64) (hp : p < N) (hpc : pc t = nI p) (hop : co p = 8) (hs : sd t = 8) : am_Out (b + 1) C Z N M co ca (fun post => wpX_execute post (nI C, nI Z, nI N, nI M, co, ca, st, pc, mk, ex, sd, fd, pn, sk, fk, fa, fs, pd, ho, aq, rl) (nI t)) := by
  have hM := I.1
  obtain ⟨st', pc', mk', ex', sd', fd', pn', sk', fk', fa', fs', pd', ho', aq', rl', hI', hK', hX'⟩ := am_raise (C := C) (Z := Z) (N := N) (co := co) (ca := ca) (pc := (upd pc t (nI (p + 1)))) (sk := sk) (fs := fs) (pd := pd) (e := (-2)) I (am_K_s K hM) ht
  refine ⟨st', pc', mk', ex', sd', fd', pn', sk', fk', fa', fs', pd', ho', aq', rl', hI', hK', fun post h => ?_⟩
  simp (disch := omega) only [wpX_execute, wpX_push, hpc, hop, am_ne_8_1, am_ne_8_2, am_ne_8_3, am_ne_8_4, am_ne_8_5, am_ne_8_6, am_ne_8_7, hs, nI_clamp, pk_us, am_uu, nI_1, nI_pred, am_ip, nI_add, am_m8, am_m4, vp_in_nI, true_and, and_true, forall_eq, true_implies, false_implies, not_true_eq_false, not_false_eq_true, am_ne_1_0, Int32.reduceLT, Int32.reduceLE]
  exact hX' _ h
theorem am_op_myid (I : am_I M st mk ex sd fd pn fk fa) (K : am_K b M st fd fk fa ho aq rl) (ht : t < M) (hN : N ≤ 64) (hp : p < N) (hpc : pc t = nI p) (hop : co p = 8) (hs : sd t = nI d) (hd : d < 8) : am_Out (b + 1) C Z N M co ca (fun post => wpX_execute post (nI C, nI Z, nI N, nI M, co, ca, st, pc, mk, ex, sd, fd, pn, sk, fk, fa, fs, pd, ho, aq, rl) (nI t)) := by
  have hM := I.1
  have q8 : ¬ nI (d) = 8 := fun q => by rw [am_eq8 (by omega)] at q; omega
  have K1 := am_K_s K hM
  refine ⟨st, (upd pc t (nI (p + 1))), mk, ex, (upd sd t (nI (d + 1))), fd, pn, (upd sk (t * 8 + d) (nI t)), fk, fa, fs, pd, ho, aq, rl, (am_I_sd (d := (d + 1)) I ht (by omega)), K1, fun post h => ?_⟩
  simp (disch := omega) only [wpX_execute, wpX_push, hpc, hop, am_ne_8_1, am_ne_8_2, am_ne_8_3, am_ne_8_4, am_ne_8_5, am_ne_8_6, am_ne_8_7, hs, q8, nI_clamp, pk_us, am_uu, nI_1, nI_pred, am_ip, nI_add, am_m8, am_m4, vp_in_nI, true_and, and_true, forall_eq, true_implies, false_implies, not_true_eq_false, not_false_eq_true, am_ne_1_0, Int32.reduceLT, Int32.reduceLE]
  exact h
theorem am_op_pop_0 (I : am_I M st mk ex sd fd pn fk fa) (K : am_K b M st fd fk fa ho aq rl) (ht : t < M) (hN : N ≤ 64) (hp : p < N) (hpc : pc t = nI p) (hop : co p = 2) (hs : sd t = 0) : am_Out (b + 1) C Z N M co ca (fun post => wpX_execute post (nI C, nI Z, nI N, nI M, co, ca, st, pc, mk, ex, sd, fd, pn, sk, fk, fa, fs, pd, ho, aq, rl) (nI t)) := by
  have hM := I.1
  obtain ⟨st', pc', mk', ex', sd', fd', pn', sk', fk', fa', fs', pd', ho', aq', rl', hI', hK', hX'⟩ := am_raise (C := C) (Z := Z) (N := N) (co := co) (ca := ca) (pc := (upd pc t (nI (p + 1)))) (sk := sk) (fs := fs) (pd := pd) (e := (-1)) I (am_K_s K hM) ht
  refine ⟨st', pc', mk', ex', sd', fd', pn', sk', fk', fa', fs', pd', ho', aq', rl', hI', hK', fun post h => ?_⟩
  simp (disch := omega) only [wpX_execute, wpX_discardTop, wpX_requireOperands, hpc, hop, am_ne_2_1, hs, nI_clamp, pk_us, am_uu, nI_1, nI_pred, am_ip, nI_add, am_m8, am_m4, vp_in_nI, true_and, and_true, forall_eq, true_implies, false_implies, not_true_eq_false, not_false_eq_true, am_ne_1_0, Int32.reduceLT, Int32.reduceLE]
  exact hX' _ h
theorem am_op_pop (I : am_I M st mk ex sd fd pn fk fa) (K : am_K b M st fd fk fa ho aq rl) (ht : t < M) (hN : N ≤ 64) (hp : p < N) (hpc : pc t = nI p) (hop : co p = 2) (hs : sd t = nI (d + 1)) (hd : d < 8) : am_Out (b + 1) C Z N M co ca (fun post => wpX_execute post (nI C, nI Z, nI N, nI M, co, ca, st, pc, mk, ex, sd, fd, pn, sk, fk, fa, fs, pd, ho, aq, rl) (nI t)) := by
  have hM := I.1
  have q0 : ¬ nI (d + 1) = 0 := fun q => by rw [am_eq0 (by omega)] at q; omega
  have q1 : 1 ≤ nI (d + 1) := nI_le (a := 1) (by omega) (by omega)
  have K1 := am_K_s K hM
  refine ⟨st, (upd pc t (nI (p + 1))), mk, ex, (upd sd t (nI d)), fd, pn, sk, fk, fa, fs, pd, ho, aq, rl, (am_I_sd (d := d) I ht (by omega)), K1, fun post h => ?_⟩
  simp (disch := omega) only [wpX_execute, wpX_discardTop, wpX_requireOperands, hpc, hop, am_ne_2_1, hs, q0, q1, nI_clamp, pk_us, am_uu, nI_1, nI_pred, am_ip, nI_add, am_m8, am_m4, vp_in_nI, true_and, and_true, forall_eq, true_implies, false_implies, not_true_eq_false, not_false_eq_true, am_ne_1_0, Int32.reduceLT, Int32.reduceLE]
  exact h
theorem am_op_dup_0 (I : am_I M st mk ex sd fd pn fk fa) (K : am_K b M st fd fk fa ho aq rl) (ht : t < M) (hN : N ≤ 64) (hp : p < N) (hpc : pc t = nI p) (hop : co p = 3) (hs : sd t = 0) : am_Out (b + 1) C Z N M co ca (fun post => wpX_execute post (nI C, nI Z, nI N, nI M, co, ca, st, pc, mk, ex, sd, fd, pn, sk, fk, fa, fs, pd, ho, aq, rl) (nI t)) := by
  have hM := I.1
  obtain ⟨st', pc', mk', ex', sd', fd', pn', sk', fk', fa', fs', pd', ho', aq', rl', hI', hK', hX'⟩ := am_raise (C := C) (Z := Z) (N := N) (co := co) (ca := ca) (pc := (upd pc t (nI (p + 1)))) (sk := sk) (fs := fs) (pd := pd) (e := (-1)) I (am_K_s K hM) ht
  refine ⟨st', pc', mk', ex', sd', fd', pn', sk', fk', fa', fs', pd', ho', aq', rl', hI', hK', fun post h => ?_⟩
  simp (disch := omega) only [wpX_execute, wpX_duplicateTop, wpX_requireOperands, hpc, hop, am_ne_3_1, am_ne_3_2, hs, nI_clamp, pk_us, am_uu, nI_1, nI_pred, am_ip, nI_add, am_m8, am_m4, vp_in_nI, true_and, and_true, forall_eq, true_implies, false_implies, not_true_eq_false, not_false_eq_true, am_ne_1_0, Int32.reduceLT, Int32.reduceLE]
  exact hX' _ h
theorem am_op_dup_full (I : am_I M st mk ex sd fd pn fk fa) (K : am_K b M st fd fk fa ho aq rl) (ht : t < M) (hN : N ≤ 64) (hp : p < N) (hpc : pc t = nI p) (hop : co p = 3) (hs : sd t = nI (d + 1)) (hd : d = 7) : am_Out (b + 1) C Z N M co ca (fun post => wpX_execute post (nI C, nI Z, nI N, nI M, co, ca, st, pc, mk, ex, sd, fd, pn, sk, fk, fa, fs, pd, ho, aq, rl) (nI t)) := by
  have hM := I.1
  have q0 : ¬ nI (d + 1) = 0 := fun q => by rw [am_eq0 (by omega)] at q; omega
  have q1 : 1 ≤ nI (d + 1) := nI_le (a := 1) (by omega) (by omega)
  have q8 : (nI (d + 1) = 8) = True := eq_true (by rw [hd]; rfl)
  obtain ⟨st', pc', mk', ex', sd', fd', pn', sk', fk', fa', fs', pd', ho', aq', rl', hI', hK', hX'⟩ := am_raise (C := C) (Z := Z) (N := N) (co := co) (ca := ca) (pc := (upd pc t (nI (p + 1)))) (sk := sk) (fs := fs) (pd := pd) (e := (-2)) I (am_K_s K hM) ht
  refine ⟨st', pc', mk', ex', sd', fd', pn', sk', fk', fa', fs', pd', ho', aq', rl', hI', hK', fun post h => ?_⟩
  simp (disch := omega) only [wpX_execute, wpX_duplicateTop, wpX_push, wpX_requireOperands, hpc, hop, am_ne_3_1, am_ne_3_2, hs, q0, q1, q8, nI_clamp, pk_us, am_uu, nI_1, nI_pred, am_ip, nI_add, am_m8, am_m4, vp_in_nI, true_and, and_true, forall_eq, true_implies, false_implies, not_true_eq_false, not_false_eq_true, am_ne_1_0, Int32.reduceLT, Int32.reduceLE]
  exact hX' _ h
theorem am_op_dup (I : am_I M st mk ex sd fd pn fk fa) (K : am_K b M st fd fk fa ho aq rl) (ht : t < M) (hN : N ≤ 64) (hp : p < N) (hpc : pc t = nI p) (hop : co p = 3) (hs : sd t = nI (d + 1)) (hd : d + 1 < 8) : am_Out (b + 1) C Z N M co ca (fun post => wpX_execute post (nI C, nI Z, nI N, nI M, co, ca, st, pc, mk, ex, sd, fd, pn, sk, fk, fa, fs, pd, ho, aq, rl) (nI t)) := by
  have hM := I.1
  have q0 : ¬ nI (d + 1) = 0 := fun q => by rw [am_eq0 (by omega)] at q; omega
  have q8 : ¬ nI (d + 1) = 8 := fun q => by rw [am_eq8 (by omega)] at q; omega
  have q1 : 1 ≤ nI (d + 1) := nI_le (a := 1) (by omega) (by omega)
  have K1 := am_K_s K hM
  refine ⟨st, (upd pc t (nI (p + 1))), mk, ex, (upd sd t (nI (d + 1 + 1))), fd, pn, (upd sk (t * 8 + (d + 1)) (sk (t * 8 + d))), fk, fa, fs, pd, ho, aq, rl, (am_I_sd (d := (d + 1 + 1)) I ht (by omega)), K1, fun post h => ?_⟩
  simp (disch := omega) only [wpX_execute, wpX_duplicateTop, wpX_push, wpX_requireOperands, hpc, hop, am_ne_3_1, am_ne_3_2, hs, q0, q1, q8, nI_clamp, pk_us, am_uu, nI_1, nI_pred, am_ip, nI_add, am_m8, am_m4, vp_in_nI, true_and, and_true, forall_eq, true_implies, false_implies, not_true_eq_false, not_false_eq_true, am_ne_1_0, Int32.reduceLT, Int32.reduceLE]
  exact h
theorem am_op_add_0 (I : am_I M st mk ex sd fd pn fk fa) (K : am_K b M st fd fk fa ho aq rl) (ht : t < M) (hN : N ≤ 64) (hp : p < N) (hpc : pc t = nI p) (hop : co p = 4) (hs : sd t = nI d) (hd : d < 2) : am_Out (b + 1) C Z N M co ca (fun post => wpX_execute post (nI C, nI Z, nI N, nI M, co, ca, st, pc, mk, ex, sd, fd, pn, sk, fk, fa, fs, pd, ho, aq, rl) (nI t)) := by
  have hM := I.1
  have q2 : ¬ 2 ≤ nI d := nI_ge (b := 2) hd (by omega)
  obtain ⟨st', pc', mk', ex', sd', fd', pn', sk', fk', fa', fs', pd', ho', aq', rl', hI', hK', hX'⟩ := am_raise (C := C) (Z := Z) (N := N) (co := co) (ca := ca) (pc := (upd pc t (nI (p + 1)))) (sk := sk) (fs := fs) (pd := pd) (e := (-1)) I (am_K_s K hM) ht
  refine ⟨st', pc', mk', ex', sd', fd', pn', sk', fk', fa', fs', pd', ho', aq', rl', hI', hK', fun post h => ?_⟩
  simp (disch := omega) only [wpX_execute, wpX_addTopTwo, wpX_requireOperands, hpc, hop, am_ne_4_1, am_ne_4_2, am_ne_4_3, hs, q2, nI_clamp, pk_us, am_uu, nI_1, nI_pred, am_ip, nI_add, am_m8, am_m4, vp_in_nI, true_and, and_true, forall_eq, true_implies, false_implies, not_true_eq_false, not_false_eq_true, am_ne_1_0, Int32.reduceLT, Int32.reduceLE]
  exact hX' _ h
theorem am_op_add (I : am_I M st mk ex sd fd pn fk fa) (K : am_K b M st fd fk fa ho aq rl) (ht : t < M) (hN : N ≤ 64) (hp : p < N) (hpc : pc t = nI p) (hop : co p = 4) (hs : sd t = nI (d + 1 + 1)) (hd : d + 1 < 8) : am_Out (b + 1) C Z N M co ca (fun post => wpX_execute post (nI C, nI Z, nI N, nI M, co, ca, st, pc, mk, ex, sd, fd, pn, sk, fk, fa, fs, pd, ho, aq, rl) (nI t)) := by
  have hM := I.1
  have q2 : 2 ≤ nI (d + 1 + 1) := nI_le (a := 2) (by omega) (by omega)
  have q8 : ¬ nI (d) = 8 := fun q => by rw [am_eq8 (by omega)] at q; omega
  have K1 := am_K_s K hM
  refine ⟨st, (upd pc t (nI (p + 1))), mk, ex, (upd sd t (nI (d + 1))), fd, pn, (upd sk (t * 8 + d) (sk (t * 8 + d) + sk (t * 8 + (d + 1)))), fk, fa, fs, pd, ho, aq, rl, (am_I_sd (d := (d + 1)) I ht (by omega)), K1, fun post h => ?_⟩
  simp (disch := omega) only [wpX_execute, wpX_addTopTwo, wpX_popTop, wpX_push, wpX_requireOperands, hpc, hop, am_ne_4_1, am_ne_4_2, am_ne_4_3, hs, q2, q8, nI_clamp, pk_us, am_uu, nI_1, nI_pred, am_ip, nI_add, am_m8, am_m4, vp_in_nI, true_and, and_true, forall_eq, true_implies, false_implies, not_true_eq_false, not_false_eq_true, am_ne_1_0, Int32.reduceLT, Int32.reduceLE]
  exact h
theorem am_op_sub_0 (I : am_I M st mk ex sd fd pn fk fa) (K : am_K b M st fd fk fa ho aq rl) (ht : t < M) (hN : N ≤ 64) (hp : p < N) (hpc : pc t = nI p) (hop : co p = 5) (hs : sd t = nI d) (hd : d < 2) : am_Out (b + 1) C Z N M co ca (fun post => wpX_execute post (nI C, nI Z, nI N, nI M, co, ca, st, pc, mk, ex, sd, fd, pn, sk, fk, fa, fs, pd, ho, aq, rl) (nI t)) := by
  have hM := I.1
  have q2 : ¬ 2 ≤ nI d := nI_ge (b := 2) hd (by omega)
  obtain ⟨st', pc', mk', ex', sd', fd', pn', sk', fk', fa', fs', pd', ho', aq', rl', hI', hK', hX'⟩ := am_raise (C := C) (Z := Z) (N := N) (co := co) (ca := ca) (pc := (upd pc t (nI (p + 1)))) (sk := sk) (fs := fs) (pd := pd) (e := (-1)) I (am_K_s K hM) ht
  refine ⟨st', pc', mk', ex', sd', fd', pn', sk', fk', fa', fs', pd', ho', aq', rl', hI', hK', fun post h => ?_⟩
  simp (disch := omega) only [wpX_execute, wpX_subtractTopTwo, wpX_requireOperands, hpc, hop, am_ne_5_1, am_ne_5_2, am_ne_5_3, am_ne_5_4, hs, q2, nI_clamp, pk_us, am_uu, nI_1, nI_pred, am_ip, nI_add, am_m8, am_m4, vp_in_nI, true_and, and_true, forall_eq, true_implies, false_implies, not_true_eq_false, not_false_eq_true, am_ne_1_0, Int32.reduceLT, Int32.reduceLE]
  exact hX' _ h
theorem am_op_sub (I : am_I M st mk ex sd fd pn fk fa) (K : am_K b M st fd fk fa ho aq rl) (ht : t < M) (hN : N ≤ 64) (hp : p < N) (hpc : pc t = nI p) (hop : co p = 5) (hs : sd t = nI (d + 1 + 1)) (hd : d + 1 < 8) : am_Out (b + 1) C Z N M co ca (fun post => wpX_execute post (nI C, nI Z, nI N, nI M, co, ca, st, pc, mk, ex, sd, fd, pn, sk, fk, fa, fs, pd, ho, aq, rl) (nI t)) := by
  have hM := I.1
  have q2 : 2 ≤ nI (d + 1 + 1) := nI_le (a := 2) (by omega) (by omega)
  have q8 : ¬ nI (d) = 8 := fun q => by rw [am_eq8 (by omega)] at q; omega
  have K1 := am_K_s K hM
  refine ⟨st, (upd pc t (nI (p + 1))), mk, ex, (upd sd t (nI (d + 1))), fd, pn, (upd sk (t * 8 + d) (sk (t * 8 + d) - sk (t * 8 + (d + 1)))), fk, fa, fs, pd, ho, aq, rl, (am_I_sd (d := (d + 1)) I ht (by omega)), K1, fun post h => ?_⟩
  simp (disch := omega) only [wpX_execute, wpX_subtractTopTwo, wpX_popTop, wpX_push, wpX_requireOperands, hpc, hop, am_ne_5_1, am_ne_5_2, am_ne_5_3, am_ne_5_4, hs, q2, q8, nI_clamp, pk_us, am_uu, nI_1, nI_pred, am_ip, nI_add, am_m8, am_m4, vp_in_nI, true_and, and_true, forall_eq, true_implies, false_implies, not_true_eq_false, not_false_eq_true, am_ne_1_0, Int32.reduceLT, Int32.reduceLE]
  exact h
theorem am_op_jmp (I : am_I M st mk ex sd fd pn fk fa) (K : am_K b M st fd fk fa ho aq rl) (ht : t < M) (hN : N ≤ 64) (hp : p < N) (hpc : pc t = nI p) (hop : co p = 6)  : am_Out (b + 1) C Z N M co ca (fun post => wpX_execute post (nI C, nI Z, nI N, nI M, co, ca, st, pc, mk, ex, sd, fd, pn, sk, fk, fa, fs, pd, ho, aq, rl) (nI t)) := by
  have hM := I.1
  have K1 := am_K_s K hM
  refine ⟨st, (upd pc t (ca p)), mk, ex, sd, fd, pn, sk, fk, fa, fs, pd, ho, aq, rl, I, K1, fun post h => ?_⟩
  simp (disch := omega) only [wpX_execute, hpc, hop, am_ne_6_1, am_ne_6_2, am_ne_6_3, am_ne_6_4, am_ne_6_5, nI_clamp, pk_us, am_uu, nI_1, nI_pred, am_ip, nI_add, am_m8, am_m4, vp_in_nI, true_and, and_true, forall_eq, true_implies, false_implies, not_true_eq_false, not_false_eq_true, am_ne_1_0, Int32.reduceLT, Int32.reduceLE]
  exact h
theorem am_op_jz_0 (I : am_I M st mk ex sd fd pn fk fa) (K : am_K b M st fd fk fa ho aq rl) (ht : t < M) (hN : N ≤ 64) (hp : p < N) (hpc : pc t = nI p) (hop : co p = 7) (hs : sd t = 0) : am_Out (b + 1) C Z N M co ca (fun post => wpX_execute post (nI C, nI Z, nI N, nI M, co, ca, st, pc, mk, ex, sd, fd, pn, sk, fk, fa, fs, pd, ho, aq, rl) (nI t)) := by
  have hM := I.1
  obtain ⟨st', pc', mk', ex', sd', fd', pn', sk', fk', fa', fs', pd', ho', aq', rl', hI', hK', hX'⟩ := am_raise (C := C) (Z := Z) (N := N) (co := co) (ca := ca) (pc := (upd pc t (nI (p + 1)))) (sk := sk) (fs := fs) (pd := pd) (e := (-1)) I (am_K_s K hM) ht
  refine ⟨st', pc', mk', ex', sd', fd', pn', sk', fk', fa', fs', pd', ho', aq', rl', hI', hK', fun post h => ?_⟩
  simp (disch := omega) only [wpX_execute, wpX_jumpIfZero, wpX_requireOperands, hpc, hop, am_ne_7_1, am_ne_7_2, am_ne_7_3, am_ne_7_4, am_ne_7_5, am_ne_7_6, hs, nI_clamp, pk_us, am_uu, nI_1, nI_pred, am_ip, nI_add, am_m8, am_m4, vp_in_nI, true_and, and_true, forall_eq, true_implies, false_implies, not_true_eq_false, not_false_eq_true, am_ne_1_0, Int32.reduceLT, Int32.reduceLE]
  exact hX' _ h
theorem am_op_jz_y (I : am_I M st mk ex sd fd pn fk fa) (K : am_K b M st fd fk fa ho aq rl) (ht : t < M) (hN : N ≤ 64) (hp : p < N) (hpc : pc t = nI p) (hop : co p = 7) (hs : sd t = nI (d + 1)) (hd : d < 8) (hv : sk (t * 8 + d) = 0) : am_Out (b + 1) C Z N M co ca (fun post => wpX_execute post (nI C, nI Z, nI N, nI M, co, ca, st, pc, mk, ex, sd, fd, pn, sk, fk, fa, fs, pd, ho, aq, rl) (nI t)) := by
  have hM := I.1
  have q0 : ¬ nI (d + 1) = 0 := fun q => by rw [am_eq0 (by omega)] at q; omega
  have q1 : 1 ≤ nI (d + 1) := nI_le (a := 1) (by omega) (by omega)
  have K1 := am_K_s K hM
  refine ⟨st, (upd pc t (ca p)), mk, ex, (upd sd t (nI d)), fd, pn, sk, fk, fa, fs, pd, ho, aq, rl, (am_I_sd (d := d) I ht (by omega)), K1, fun post h => ?_⟩
  simp (disch := omega) only [wpX_execute, wpX_jumpIfZero, wpX_popTop, wpX_requireOperands, hpc, hop, am_ne_7_1, am_ne_7_2, am_ne_7_3, am_ne_7_4, am_ne_7_5, am_ne_7_6, hs, hv, q0, q1, nI_clamp, pk_us, am_uu, nI_1, nI_pred, am_ip, nI_add, am_m8, am_m4, vp_in_nI, true_and, and_true, forall_eq, true_implies, false_implies, not_true_eq_false, not_false_eq_true, am_ne_1_0, Int32.reduceLT, Int32.reduceLE]
  exact h
theorem am_op_jz_n (I : am_I M st mk ex sd fd pn fk fa) (K : am_K b M st fd fk fa ho aq rl) (ht : t < M) (hN : N ≤ 64) (hp : p < N) (hpc : pc t = nI p) (hop : co p = 7) (hs : sd t = nI (d + 1)) (hd : d < 8) (hv : ¬ sk (t * 8 + d) = 0) : am_Out (b + 1) C Z N M co ca (fun post => wpX_execute post (nI C, nI Z, nI N, nI M, co, ca, st, pc, mk, ex, sd, fd, pn, sk, fk, fa, fs, pd, ho, aq, rl) (nI t)) := by
  have hM := I.1
  have q0 : ¬ nI (d + 1) = 0 := fun q => by rw [am_eq0 (by omega)] at q; omega
  have q1 : 1 ≤ nI (d + 1) := nI_le (a := 1) (by omega) (by omega)
  have K1 := am_K_s K hM
  refine ⟨st, (upd pc t (nI (p + 1))), mk, ex, (upd sd t (nI d)), fd, pn, sk, fk, fa, fs, pd, ho, aq, rl, (am_I_sd (d := d) I ht (by omega)), K1, fun post h => ?_⟩
  simp (disch := omega) only [wpX_execute, wpX_jumpIfZero, wpX_popTop, wpX_requireOperands, hpc, hop, am_ne_7_1, am_ne_7_2, am_ne_7_3, am_ne_7_4, am_ne_7_5, am_ne_7_6, hs, hv, q0, q1, nI_clamp, pk_us, am_uu, nI_1, nI_pred, am_ip, nI_add, am_m8, am_m4, vp_in_nI, true_and, and_true, forall_eq, true_implies, false_implies, not_true_eq_false, not_false_eq_true, am_ne_1_0, Int32.reduceLT, Int32.reduceLE]
  exact h
theorem am_op_thr_0 (I : am_I M st mk ex sd fd pn fk fa) (K : am_K b M st fd fk fa ho aq rl) (ht : t < M) (hN : N ≤ 64) (hp : p < N) (hpc : pc t = nI p) (hop : co p = 9) (hs : sd t = 0) : am_Out (b + 1) C Z N M co ca (fun post => wpX_execute post (nI C, nI Z, nI N, nI M, co, ca, st, pc, mk, ex, sd, fd, pn, sk, fk, fa, fs, pd, ho, aq, rl) (nI t)) := by
  have hM := I.1
  obtain ⟨st', pc', mk', ex', sd', fd', pn', sk', fk', fa', fs', pd', ho', aq', rl', hI', hK', hX'⟩ := am_raise (C := C) (Z := Z) (N := N) (co := co) (ca := ca) (pc := (upd pc t (nI (p + 1)))) (sk := sk) (fs := fs) (pd := pd) (e := (-1)) I (am_K_s K hM) ht
  refine ⟨st', pc', mk', ex', sd', fd', pn', sk', fk', fa', fs', pd', ho', aq', rl', hI', hK', fun post h => ?_⟩
  simp (disch := omega) only [wpX_execute, wpX_throwTop, wpX_requireOperands, hpc, hop, am_ne_9_1, am_ne_9_2, am_ne_9_3, am_ne_9_4, am_ne_9_5, am_ne_9_6, am_ne_9_7, am_ne_9_8, hs, nI_clamp, pk_us, am_uu, nI_1, nI_pred, am_ip, nI_add, am_m8, am_m4, vp_in_nI, true_and, and_true, forall_eq, true_implies, false_implies, not_true_eq_false, not_false_eq_true, am_ne_1_0, Int32.reduceLT, Int32.reduceLE]
  exact hX' _ h
theorem am_op_thr (I : am_I M st mk ex sd fd pn fk fa) (K : am_K b M st fd fk fa ho aq rl) (ht : t < M) (hN : N ≤ 64) (hp : p < N) (hpc : pc t = nI p) (hop : co p = 9) (hs : sd t = nI (d + 1)) (hd : d < 8) : am_Out (b + 1) C Z N M co ca (fun post => wpX_execute post (nI C, nI Z, nI N, nI M, co, ca, st, pc, mk, ex, sd, fd, pn, sk, fk, fa, fs, pd, ho, aq, rl) (nI t)) := by
  have hM := I.1
  have q0 : ¬ nI (d + 1) = 0 := fun q => by rw [am_eq0 (by omega)] at q; omega
  have q1 : 1 ≤ nI (d + 1) := nI_le (a := 1) (by omega) (by omega)
  obtain ⟨st', pc', mk', ex', sd', fd', pn', sk', fk', fa', fs', pd', ho', aq', rl', hI', hK', hX'⟩ := am_raise (C := C) (Z := Z) (N := N) (co := co) (ca := ca) (pc := (upd pc t (nI (p + 1)))) (sk := sk) (fs := fs) (pd := pd) (e := (sk (t * 8 + d))) (am_I_sd (d := d) I ht (by omega)) (am_K_s K hM) ht
  refine ⟨st', pc', mk', ex', sd', fd', pn', sk', fk', fa', fs', pd', ho', aq', rl', hI', hK', fun post h => ?_⟩
  simp (disch := omega) only [wpX_execute, wpX_throwTop, wpX_popTop, wpX_requireOperands, hpc, hop, am_ne_9_1, am_ne_9_2, am_ne_9_3, am_ne_9_4, am_ne_9_5, am_ne_9_6, am_ne_9_7, am_ne_9_8, hs, q0, q1, nI_clamp, pk_us, am_uu, nI_1, nI_pred, am_ip, nI_add, am_m8, am_m4, vp_in_nI, true_and, and_true, forall_eq, true_implies, false_implies, not_true_eq_false, not_false_eq_true, am_ne_1_0, Int32.reduceLT, Int32.reduceLE]
  exact hX' _ h
theorem am_op_tto_0 (I : am_I M st mk ex sd fd pn fk fa) (K : am_K b M st fd fk fa ho aq rl) (ht : t < M) (hN : N ≤ 64) (hp : p < N) (hpc : pc t = nI p) (hop : co p = 10) (hs : sd t = 0) : am_Out (b + 1) C Z N M co ca (fun post => wpX_execute post (nI C, nI Z, nI N, nI M, co, ca, st, pc, mk, ex, sd, fd, pn, sk, fk, fa, fs, pd, ho, aq, rl) (nI t)) := by
  have hM := I.1
  obtain ⟨st', pc', mk', ex', sd', fd', pn', sk', fk', fa', fs', pd', ho', aq', rl', hI', hK', hX'⟩ := am_raise (C := C) (Z := Z) (N := N) (co := co) (ca := ca) (pc := (upd pc t (nI (p + 1)))) (sk := sk) (fs := fs) (pd := pd) (e := (-1)) I (am_K_s K hM) ht
  refine ⟨st', pc', mk', ex', sd', fd', pn', sk', fk', fa', fs', pd', ho', aq', rl', hI', hK', fun post h => ?_⟩
  simp (disch := omega) only [wpX_execute, wpX_throwTopTo, wpX_popTop, wpX_requireOperands, hpc, hop, am_ne_10_1, am_ne_10_2, am_ne_10_3, am_ne_10_4, am_ne_10_5, am_ne_10_6, am_ne_10_7, am_ne_10_8, am_ne_10_9, hs, nI_clamp, pk_us, am_uu, nI_1, nI_pred, am_ip, nI_add, am_m8, am_m4, vp_in_nI, true_and, and_true, forall_eq, true_implies, false_implies, not_true_eq_false, not_false_eq_true, am_ne_1_0, Int32.reduceLT, Int32.reduceLE]
  exact hX' _ h
theorem am_op_tto_me (I : am_I M st mk ex sd fd pn fk fa) (K : am_K b M st fd fk fa ho aq rl) (ht : t < M) (hN : N ≤ 64) (hp : p < N) (hpc : pc t = nI p) (hop : co p = 10) (hs : sd t = nI (d + 1)) (hd : d < 8) (ha : ca p = nI t) : am_Out (b + 1) C Z N M co ca (fun post => wpX_execute post (nI C, nI Z, nI N, nI M, co, ca, st, pc, mk, ex, sd, fd, pn, sk, fk, fa, fs, pd, ho, aq, rl) (nI t)) := by
  have hM := I.1
  have q0 : ¬ nI (d + 1) = 0 := fun q => by rw [am_eq0 (by omega)] at q; omega
  have q1 : 1 ≤ nI (d + 1) := nI_le (a := 1) (by omega) (by omega)
  obtain ⟨st', pc', mk', ex', sd', fd', pn', sk', fk', fa', fs', pd', ho', aq', rl', hI', hK', hX'⟩ := am_raise (C := C) (Z := Z) (N := N) (co := co) (ca := ca) (pc := (upd pc t (nI (p + 1)))) (sk := sk) (fs := fs) (pd := pd) (e := (sk (t * 8 + d))) (am_I_sd (d := d) I ht (by omega)) (am_K_s K hM) ht
  refine ⟨st', pc', mk', ex', sd', fd', pn', sk', fk', fa', fs', pd', ho', aq', rl', hI', hK', fun post h => ?_⟩
  simp (disch := omega) only [wpX_execute, wpX_throwTopTo, wpX_popTop, wpX_requireOperands, hpc, hop, am_ne_10_1, am_ne_10_2, am_ne_10_3, am_ne_10_4, am_ne_10_5, am_ne_10_6, am_ne_10_7, am_ne_10_8, am_ne_10_9, hs, ha, q0, q1, nI_clamp, pk_us, am_uu, nI_1, nI_pred, am_ip, nI_add, am_m8, am_m4, vp_in_nI, true_and, and_true, forall_eq, true_implies, false_implies, not_true_eq_false, not_false_eq_true, am_ne_1_0, Int32.reduceLT, Int32.reduceLE]
  exact hX' _ h
theorem am_op_tto_neg (I : am_I M st mk ex sd fd pn fk fa) (K : am_K b M st fd fk fa ho aq rl) (ht : t < M) (hN : N ≤ 64) (hp : p < N) (hpc : pc t = nI p) (hop : co p = 10) (hs : sd t = nI (d + 1)) (hd : d < 8) (ha : ca p < 0) : am_Out (b + 1) C Z N M co ca (fun post => wpX_execute post (nI C, nI Z, nI N, nI M, co, ca, st, pc, mk, ex, sd, fd, pn, sk, fk, fa, fs, pd, ho, aq, rl) (nI t)) := by
  have hM := I.1
  have q0 : ¬ nI (d + 1) = 0 := fun q => by rw [am_eq0 (by omega)] at q; omega
  have q1 : 1 ≤ nI (d + 1) := nI_le (a := 1) (by omega) (by omega)
  have qn : ¬ ca p = nI t := fun q => by rw [q] at ha; exact nI_pos (by omega) ha
  have qz : ¬ 0 ≤ ca p := Int32.not_le.mpr ha
  have K1 := am_K_s K hM
  refine ⟨st, (upd pc t (nI (p + 1))), mk, ex, (upd sd t (nI d)), fd, pn, sk, fk, fa, fs, pd, ho, aq, rl, (am_I_sd (d := d) I ht (by omega)), K1, fun post h => ?_⟩
  simp (disch := omega) only [wpX_execute, wpX_throwTopTo, wpX_popTop, wpX_requireOperands, wpX_isAlive, wpX_isThread, wpX_appendPending, hpc, hop, am_ne_10_1, am_ne_10_2, am_ne_10_3, am_ne_10_4, am_ne_10_5, am_ne_10_6, am_ne_10_7, am_ne_10_8, am_ne_10_9, hs, ha, qn, qz, q0, q1, nI_clamp, pk_us, am_uu, nI_1, nI_pred, am_ip, nI_add, am_m8, am_m4, vp_in_nI, true_and, and_true, forall_eq, true_implies, false_implies, not_true_eq_false, not_false_eq_true, am_ne_1_0, Int32.reduceLT, Int32.reduceLE]
  exact h
theorem am_op_tto_big (I : am_I M st mk ex sd fd pn fk fa) (K : am_K b M st fd fk fa ho aq rl) (ht : t < M) (hN : N ≤ 64) (hp : p < N) (hpc : pc t = nI p) (hop : co p = 10) (hs : sd t = nI (d + 1)) (hd : d < 8) (hz : ¬ ca p < 0) (ha : nI M ≤ ca p) : am_Out (b + 1) C Z N M co ca (fun post => wpX_execute post (nI C, nI Z, nI N, nI M, co, ca, st, pc, mk, ex, sd, fd, pn, sk, fk, fa, fs, pd, ho, aq, rl) (nI t)) := by
  have hM := I.1
  have q0 : ¬ nI (d + 1) = 0 := fun q => by rw [am_eq0 (by omega)] at q; omega
  have q1 : 1 ≤ nI (d + 1) := nI_le (a := 1) (by omega) (by omega)
  have qn : ¬ ca p = nI t := fun q => by rw [q] at ha; exact nI_ge ht (by omega) ha
  have qz : ¬ ca p < nI M := Int32.not_lt.mpr ha
  have qy : 0 ≤ ca p := Int32.not_lt.mp hz
  have K1 := am_K_s K hM
  refine ⟨st, (upd pc t (nI (p + 1))), mk, ex, (upd sd t (nI d)), fd, pn, sk, fk, fa, fs, pd, ho, aq, rl, (am_I_sd (d := d) I ht (by omega)), K1, fun post h => ?_⟩
  simp (disch := omega) only [wpX_execute, wpX_throwTopTo, wpX_popTop, wpX_requireOperands, wpX_isAlive, wpX_isThread, wpX_appendPending, hpc, hop, am_ne_10_1, am_ne_10_2, am_ne_10_3, am_ne_10_4, am_ne_10_5, am_ne_10_6, am_ne_10_7, am_ne_10_8, am_ne_10_9, hs, ha, hz, qn, qz, qy, q0, q1, nI_clamp, pk_us, am_uu, nI_1, nI_pred, am_ip, nI_add, am_m8, am_m4, vp_in_nI, true_and, and_true, forall_eq, true_implies, false_implies, not_true_eq_false, not_false_eq_true, am_ne_1_0, Int32.reduceLT, Int32.reduceLE]
  exact h
theorem am_op_tto_dead (I : am_I M st mk ex sd fd pn fk fa) (K : am_K b M st fd fk fa ho aq rl) (ht : t < M) (hN : N ≤ 64) (hp : p < N) (hpc : pc t = nI p) (hop : co p = 10) (hs : sd t = nI (d + 1)) (hd : d < 8) {u c : Nat} (hu : u < M) (hut : u ≠ t) (ha : ca p = nI u) (hx : ¬ st u = 1) : am_Out (b + 1) C Z N M co ca (fun post => wpX_execute post (nI C, nI Z, nI N, nI M, co, ca, st, pc, mk, ex, sd, fd, pn, sk, fk, fa, fs, pd, ho, aq, rl) (nI t)) := by
  have hM := I.1
  have q0 : ¬ nI (d + 1) = 0 := fun q => by rw [am_eq0 (by omega)] at q; omega
  have q1 : 1 ≤ nI (d + 1) := nI_le (a := 1) (by omega) (by omega)
  have qn : ¬ nI u = nI t := fun q => hut ((nI_eq (by omega) (by omega)).mp q)
  have qy : ¬ nI u < 0 := nI_pos (by omega)
  have qx : 0 ≤ nI u := nI_pos' (by omega)
  have qm : nI u < nI M := nI_lt hu (by omega)
  have qk : ¬ nI M ≤ nI u := nI_ge hu (by omega)
  have K1 := am_K_s K hM
  refine ⟨st, (upd pc t (nI (p + 1))), mk, ex, (upd sd t (nI d)), fd, pn, sk, fk, fa, fs, pd, ho, aq, rl, (am_I_sd (d := d) I ht (by omega)), K1, fun post h => ?_⟩
  simp (disch := omega) only [wpX_execute, wpX_throwTopTo, wpX_popTop, wpX_requireOperands, wpX_isAlive, wpX_isThread, wpX_appendPending, hpc, hop, am_ne_10_1, am_ne_10_2, am_ne_10_3, am_ne_10_4, am_ne_10_5, am_ne_10_6, am_ne_10_7, am_ne_10_8, am_ne_10_9, hs, ha, qn, qy, qx, qm, qk, q0, q1, hx, nI_clamp, pk_us, am_uu, nI_1, nI_pred, am_ip, nI_add, am_m8, am_m4, vp_in_nI, true_and, and_true, forall_eq, true_implies, false_implies, not_true_eq_false, not_false_eq_true, am_ne_1_0, Int32.reduceLT, Int32.reduceLE]
  exact h
theorem am_op_tto_full (I : am_I M st mk ex sd fd pn fk fa) (K : am_K b M st fd fk fa ho aq rl) (ht : t < M) (hN : N ≤ 64) (hp : p < N) (hpc : pc t = nI p) (hop : co p = 10) (hs : sd t = nI (d + 1)) (hd : d < 8) {u c : Nat} (hu : u < M) (hut : u ≠ t) (ha : ca p = nI u) (hx : st u = 1) (hc : pn u = 4) : am_Out (b + 1) C Z N M co ca (fun post => wpX_execute post (nI C, nI Z, nI N, nI M, co, ca, st, pc, mk, ex, sd, fd, pn, sk, fk, fa, fs, pd, ho, aq, rl) (nI t)) := by
  have hM := I.1
  have q0 : ¬ nI (d + 1) = 0 := fun q => by rw [am_eq0 (by omega)] at q; omega
  have q1 : 1 ≤ nI (d + 1) := nI_le (a := 1) (by omega) (by omega)
  have qn : ¬ nI u = nI t := fun q => hut ((nI_eq (by omega) (by omega)).mp q)
  have qy : ¬ nI u < 0 := nI_pos (by omega)
  have qx : 0 ≤ nI u := nI_pos' (by omega)
  have qm : nI u < nI M := nI_lt hu (by omega)
  have qk : ¬ nI M ≤ nI u := nI_ge hu (by omega)
  have K1 := am_K_s K hM
  refine ⟨st, (upd pc t (nI (p + 1))), mk, ex, (upd sd t (nI d)), fd, pn, sk, fk, fa, fs, pd, ho, aq, rl, (am_I_sd (d := d) I ht (by omega)), K1, fun post h => ?_⟩
  simp (disch := omega) only [wpX_execute, wpX_throwTopTo, wpX_popTop, wpX_requireOperands, wpX_isAlive, wpX_isThread, wpX_appendPending, hpc, hop, am_ne_10_1, am_ne_10_2, am_ne_10_3, am_ne_10_4, am_ne_10_5, am_ne_10_6, am_ne_10_7, am_ne_10_8, am_ne_10_9, hs, ha, qn, qy, qx, qm, qk, q0, q1, hx, hc, nI_clamp, pk_us, am_uu, nI_1, nI_pred, am_ip, nI_add, am_m8, am_m4, vp_in_nI, true_and, and_true, forall_eq, true_implies, false_implies, not_true_eq_false, not_false_eq_true, am_ne_1_0, Int32.reduceLT, Int32.reduceLE]
  exact h
theorem am_op_tto (I : am_I M st mk ex sd fd pn fk fa) (K : am_K b M st fd fk fa ho aq rl) (ht : t < M) (hN : N ≤ 64) (hp : p < N) (hpc : pc t = nI p) (hop : co p = 10) (hs : sd t = nI (d + 1)) (hd : d < 8) {u c : Nat} (hu : u < M) (hut : u ≠ t) (ha : ca p = nI u) (hx : st u = 1) (hc : pn u = nI c) (hc4 : c < 4) : am_Out (b + 1) C Z N M co ca (fun post => wpX_execute post (nI C, nI Z, nI N, nI M, co, ca, st, pc, mk, ex, sd, fd, pn, sk, fk, fa, fs, pd, ho, aq, rl) (nI t)) := by
  have hM := I.1
  have q0 : ¬ nI (d + 1) = 0 := fun q => by rw [am_eq0 (by omega)] at q; omega
  have q1 : 1 ≤ nI (d + 1) := nI_le (a := 1) (by omega) (by omega)
  have qn : ¬ nI u = nI t := fun q => hut ((nI_eq (by omega) (by omega)).mp q)
  have qy : ¬ nI u < 0 := nI_pos (by omega)
  have qx : 0 ≤ nI u := nI_pos' (by omega)
  have qm : nI u < nI M := nI_lt hu (by omega)
  have qk : ¬ nI M ≤ nI u := nI_ge hu (by omega)
  have q4 : ¬ nI (c) = 4 := fun q => by rw [am_eq4 (by omega)] at q; omega
  have q5 : ¬ 4 ≤ nI c := nI_ge (b := 4) hc4 (by omega)
  have q6 : nI c < 4 := nI_lt (b := 4) hc4 (by omega)
  have K1 := am_K_s K hM
  refine ⟨st, (upd pc t (nI (p + 1))), mk, ex, (upd sd t (nI d)), fd, (upd pn u (nI (c + 1))), sk, fk, fa, fs, (upd pd (u * 4 + c) (sk (t * 8 + d))), ho, aq, rl, (am_I_pn (d := c + 1) (am_I_sd (d := d) I ht (by omega)) hu (by omega)), K1, fun post h => ?_⟩
  simp (disch := omega) only [wpX_execute, wpX_throwTopTo, wpX_popTop, wpX_requireOperands, wpX_isAlive, wpX_isThread, wpX_appendPending, hpc, hop, am_ne_10_1, am_ne_10_2, am_ne_10_3, am_ne_10_4, am_ne_10_5, am_ne_10_6, am_ne_10_7, am_ne_10_8, am_ne_10_9, hs, ha, qn, qy, qx, qm, qk, q0, q1, hx, hc, q4, q5, q6, nI_clamp, pk_us, am_uu, nI_1, nI_pred, am_ip, nI_add, am_m8, am_m4, vp_in_nI, true_and, and_true, forall_eq, true_implies, false_implies, not_true_eq_false, not_false_eq_true, am_ne_1_0, Int32.reduceLT, Int32.reduceLE]
  exact h
theorem am_op_catch_full (I : am_I M st mk ex sd fd pn fk fa) (K : am_K b M st fd fk fa ho aq rl) (ht : t < M) (hN : N ≤ 64) (hp : p < N) (hpc : pc t = nI p) (hop : co p = 11) (hf : fd t = 8) : am_Out (b + 1) C Z N M co ca (fun post => wpX_execute post (nI C, nI Z, nI N, nI M, co, ca, st, pc, mk, ex, sd, fd, pn, sk, fk, fa, fs, pd, ho, aq, rl) (nI t)) := by
  have hM := I.1
  obtain ⟨st', pc', mk', ex', sd', fd', pn', sk', fk', fa', fs', pd', ho', aq', rl', hI', hK', hX'⟩ := am_raise (C := C) (Z := Z) (N := N) (co := co) (ca := ca) (pc := (upd pc t (nI (p + 1)))) (sk := sk) (fs := fs) (pd := pd) (e := (-3)) I (am_K_s K hM) ht
  refine ⟨st', pc', mk', ex', sd', fd', pn', sk', fk', fa', fs', pd', ho', aq', rl', hI', hK', fun post h => ?_⟩
  simp (disch := omega) only [wpX_execute, wpX_pushFrame, hpc, hop, am_ne_11_1, am_ne_11_2, am_ne_11_3, am_ne_11_4, am_ne_11_5, am_ne_11_6, am_ne_11_7, am_ne_11_8, am_ne_11_9, am_ne_11_10, hf, nI_clamp, pk_us, am_uu, nI_1, nI_pred, am_ip, nI_add, am_m8, am_m4, vp_in_nI, true_and, and_true, forall_eq, true_implies, false_implies, not_true_eq_false, not_false_eq_true, am_ne_1_0, Int32.reduceLT, Int32.reduceLE]
  exact hX' _ h
theorem am_op_catch (I : am_I M st mk ex sd fd pn fk fa) (K : am_K b M st fd fk fa ho aq rl) (ht : t < M) (hN : N ≤ 64) (hp : p < N) (hpc : pc t = nI p) (hop : co p = 11) (hf : fd t = nI d) (hd : d < 8) : am_Out (b + 1) C Z N M co ca (fun post => wpX_execute post (nI C, nI Z, nI N, nI M, co, ca, st, pc, mk, ex, sd, fd, pn, sk, fk, fa, fs, pd, ho, aq, rl) (nI t)) := by
  have hM := I.1
  have q8 : ¬ nI (d) = 8 := fun q => by rw [am_eq8 (by omega)] at q; omega
  have K1 := am_K_s K hM
  refine ⟨st, (upd pc t (nI (p + 1))), mk, ex, sd, (upd fd t (nI (d + 1))), pn, sk, (upd fk (t * 8 + d) 1), (upd fa (t * 8 + d) (ca p)), (upd fs (t * 8 + d) (mk t)), pd, ho, aq, rl, (am_I_fr (am_I_fd (d := d + 1) I ht (by omega)) (fun q => absurd q (by decide))), (am_K_pf K1 hM (by omega) hd hf (by decide)), fun post h => ?_⟩
  simp (disch := omega) only [wpX_execute, wpX_pushFrame, hpc, hop, am_ne_11_1, am_ne_11_2, am_ne_11_3, am_ne_11_4, am_ne_11_5, am_ne_11_6, am_ne_11_7, am_ne_11_8, am_ne_11_9, am_ne_11_10, hf, q8, nI_clamp, pk_us, am_uu, nI_1, nI_pred, am_ip, nI_add, am_m8, am_m4, vp_in_nI, true_and, and_true, forall_eq, true_implies, false_implies, not_true_eq_false, not_false_eq_true, am_ne_1_0, Int32.reduceLT, Int32.reduceLE]
  exact h
theorem am_op_mask_neg_full (I : am_I M st mk ex sd fd pn fk fa) (K : am_K b M st fd fk fa ho aq rl) (ht : t < M) (hN : N ≤ 64) (hp : p < N) (hpc : pc t = nI p) (hop : co p = 12) (ha : ca p < 0) (hf : fd t = 8) : am_Out (b + 1) C Z N M co ca (fun post => wpX_execute post (nI C, nI Z, nI N, nI M, co, ca, st, pc, mk, ex, sd, fd, pn, sk, fk, fa, fs, pd, ho, aq, rl) (nI t)) := by
  have hM := I.1
  have qa : ¬ 0 ≤ ca p := Int32.not_le.mpr ha
  obtain ⟨st', pc', mk', ex', sd', fd', pn', sk', fk', fa', fs', pd', ho', aq', rl', hI', hK', hX'⟩ := am_raise (C := C) (Z := Z) (N := N) (co := co) (ca := ca) (pc := (upd pc t (nI (p + 1)))) (sk := sk) (fs := fs) (pd := pd) (e := (-3)) I (am_K_s K hM) ht
  refine ⟨st', pc', mk', ex', sd', fd', pn', sk', fk', fa', fs', pd', ho', aq', rl', hI', hK', fun post h => ?_⟩
  simp (disch := omega) only [wpX_execute, wpX_enterMask, wpX_clamp, wpX_pushFrame, hpc, hop, am_ne_12_1, am_ne_12_2, am_ne_12_3, am_ne_12_4, am_ne_12_5, am_ne_12_6, am_ne_12_7, am_ne_12_8, am_ne_12_9, am_ne_12_10, am_ne_12_11, ha, qa, hf, nI_clamp, pk_us, am_uu, nI_1, nI_pred, am_ip, nI_add, am_m8, am_m4, vp_in_nI, true_and, and_true, forall_eq, true_implies, false_implies, not_true_eq_false, not_false_eq_true, am_ne_1_0, Int32.reduceLT, Int32.reduceLE]
  exact hX' _ h
theorem am_op_mask_neg (I : am_I M st mk ex sd fd pn fk fa) (K : am_K b M st fd fk fa ho aq rl) (ht : t < M) (hN : N ≤ 64) (hp : p < N) (hpc : pc t = nI p) (hop : co p = 12) (ha : ca p < 0) (hf : fd t = nI d) (hd : d < 8) : am_Out (b + 1) C Z N M co ca (fun post => wpX_execute post (nI C, nI Z, nI N, nI M, co, ca, st, pc, mk, ex, sd, fd, pn, sk, fk, fa, fs, pd, ho, aq, rl) (nI t)) := by
  have hM := I.1
  have qa : ¬ 0 ≤ ca p := Int32.not_le.mpr ha
  have q8 : ¬ nI (d) = 8 := fun q => by rw [am_eq8 (by omega)] at q; omega
  have K1 := am_K_s K hM
  refine ⟨st, (upd pc t (nI (p + 1))), (upd mk t 0), ex, sd, (upd fd t (nI (d + 1))), pn, sk, (upd fk (t * 8 + d) 2), (upd fa (t * 8 + d) 0), (upd fs (t * 8 + d) (mk t)), pd, ho, aq, rl, (am_I_mk (am_I_fr (am_I_fd (d := d + 1) I ht (by omega)) (fun q => absurd q (by decide))) ht), (am_K_pf K1 hM (by omega) hd hf (by decide)), fun post h => ?_⟩
  simp (disch := omega) only [wpX_execute, wpX_enterMask, wpX_clamp, wpX_pushFrame, hpc, hop, am_ne_12_1, am_ne_12_2, am_ne_12_3, am_ne_12_4, am_ne_12_5, am_ne_12_6, am_ne_12_7, am_ne_12_8, am_ne_12_9, am_ne_12_10, am_ne_12_11, ha, qa, hf, q8, nI_clamp, pk_us, am_uu, nI_1, nI_pred, am_ip, nI_add, am_m8, am_m4, vp_in_nI, true_and, and_true, forall_eq, true_implies, false_implies, not_true_eq_false, not_false_eq_true, am_ne_1_0, Int32.reduceLT, Int32.reduceLE]
  exact h
theorem am_op_mask_big_full (I : am_I M st mk ex sd fd pn fk fa) (K : am_K b M st fd fk fa ho aq rl) (ht : t < M) (hN : N ≤ 64) (hp : p < N) (hpc : pc t = nI p) (hop : co p = 12) (hz : ¬ ca p < 0) (ha : 2 < ca p) (hf : fd t = 8) : am_Out (b + 1) C Z N M co ca (fun post => wpX_execute post (nI C, nI Z, nI N, nI M, co, ca, st, pc, mk, ex, sd, fd, pn, sk, fk, fa, fs, pd, ho, aq, rl) (nI t)) := by
  have hM := I.1
  have qa : ¬ ca p ≤ 2 := Int32.not_le.mpr ha
  have qb : 0 ≤ ca p := Int32.not_lt.mp hz
  obtain ⟨st', pc', mk', ex', sd', fd', pn', sk', fk', fa', fs', pd', ho', aq', rl', hI', hK', hX'⟩ := am_raise (C := C) (Z := Z) (N := N) (co := co) (ca := ca) (pc := (upd pc t (nI (p + 1)))) (sk := sk) (fs := fs) (pd := pd) (e := (-3)) I (am_K_s K hM) ht
  refine ⟨st', pc', mk', ex', sd', fd', pn', sk', fk', fa', fs', pd', ho', aq', rl', hI', hK', fun post h => ?_⟩
  simp (disch := omega) only [wpX_execute, wpX_enterMask, wpX_clamp, wpX_pushFrame, hpc, hop, am_ne_12_1, am_ne_12_2, am_ne_12_3, am_ne_12_4, am_ne_12_5, am_ne_12_6, am_ne_12_7, am_ne_12_8, am_ne_12_9, am_ne_12_10, am_ne_12_11, ha, hz, qa, qb, hf, nI_clamp, pk_us, am_uu, nI_1, nI_pred, am_ip, nI_add, am_m8, am_m4, vp_in_nI, true_and, and_true, forall_eq, true_implies, false_implies, not_true_eq_false, not_false_eq_true, am_ne_1_0, Int32.reduceLT, Int32.reduceLE]
  exact hX' _ h
theorem am_op_mask_big (I : am_I M st mk ex sd fd pn fk fa) (K : am_K b M st fd fk fa ho aq rl) (ht : t < M) (hN : N ≤ 64) (hp : p < N) (hpc : pc t = nI p) (hop : co p = 12) (hz : ¬ ca p < 0) (ha : 2 < ca p) (hf : fd t = nI d) (hd : d < 8) : am_Out (b + 1) C Z N M co ca (fun post => wpX_execute post (nI C, nI Z, nI N, nI M, co, ca, st, pc, mk, ex, sd, fd, pn, sk, fk, fa, fs, pd, ho, aq, rl) (nI t)) := by
  have hM := I.1
  have qa : ¬ ca p ≤ 2 := Int32.not_le.mpr ha
  have qb : 0 ≤ ca p := Int32.not_lt.mp hz
  have q8 : ¬ nI (d) = 8 := fun q => by rw [am_eq8 (by omega)] at q; omega
  have K1 := am_K_s K hM
  refine ⟨st, (upd pc t (nI (p + 1))), (upd mk t 2), ex, sd, (upd fd t (nI (d + 1))), pn, sk, (upd fk (t * 8 + d) 2), (upd fa (t * 8 + d) 2), (upd fs (t * 8 + d) (mk t)), pd, ho, aq, rl, (am_I_mk (am_I_fr (am_I_fd (d := d + 1) I ht (by omega)) (fun q => absurd q (by decide))) ht), (am_K_pf K1 hM (by omega) hd hf (by decide)), fun post h => ?_⟩
  simp (disch := omega) only [wpX_execute, wpX_enterMask, wpX_clamp, wpX_pushFrame, hpc, hop, am_ne_12_1, am_ne_12_2, am_ne_12_3, am_ne_12_4, am_ne_12_5, am_ne_12_6, am_ne_12_7, am_ne_12_8, am_ne_12_9, am_ne_12_10, am_ne_12_11, ha, hz, qa, qb, hf, q8, nI_clamp, pk_us, am_uu, nI_1, nI_pred, am_ip, nI_add, am_m8, am_m4, vp_in_nI, true_and, and_true, forall_eq, true_implies, false_implies, not_true_eq_false, not_false_eq_true, am_ne_1_0, Int32.reduceLT, Int32.reduceLE]
  exact h
theorem am_op_mask_mid_full (I : am_I M st mk ex sd fd pn fk fa) (K : am_K b M st fd fk fa ho aq rl) (ht : t < M) (hN : N ≤ 64) (hp : p < N) (hpc : pc t = nI p) (hop : co p = 12) (hz : ¬ ca p < 0) (ha : ca p ≤ 2) (hf : fd t = 8) : am_Out (b + 1) C Z N M co ca (fun post => wpX_execute post (nI C, nI Z, nI N, nI M, co, ca, st, pc, mk, ex, sd, fd, pn, sk, fk, fa, fs, pd, ho, aq, rl) (nI t)) := by
  have hM := I.1
  have qa : ¬ 2 < ca p := Int32.not_lt.mpr ha
  have qb : 0 ≤ ca p := Int32.not_lt.mp hz
  obtain ⟨st', pc', mk', ex', sd', fd', pn', sk', fk', fa', fs', pd', ho', aq', rl', hI', hK', hX'⟩ := am_raise (C := C) (Z := Z) (N := N) (co := co) (ca := ca) (pc := (upd pc t (nI (p + 1)))) (sk := sk) (fs := fs) (pd := pd) (e := (-3)) I (am_K_s K hM) ht
  refine ⟨st', pc', mk', ex', sd', fd', pn', sk', fk', fa', fs', pd', ho', aq', rl', hI', hK', fun post h => ?_⟩
  simp (disch := omega) only [wpX_execute, wpX_enterMask, wpX_clamp, wpX_pushFrame, hpc, hop, am_ne_12_1, am_ne_12_2, am_ne_12_3, am_ne_12_4, am_ne_12_5, am_ne_12_6, am_ne_12_7, am_ne_12_8, am_ne_12_9, am_ne_12_10, am_ne_12_11, ha, hz, qa, qb, hf, nI_clamp, pk_us, am_uu, nI_1, nI_pred, am_ip, nI_add, am_m8, am_m4, vp_in_nI, true_and, and_true, forall_eq, true_implies, false_implies, not_true_eq_false, not_false_eq_true, am_ne_1_0, Int32.reduceLT, Int32.reduceLE]
  exact hX' _ h
theorem am_op_mask_mid (I : am_I M st mk ex sd fd pn fk fa) (K : am_K b M st fd fk fa ho aq rl) (ht : t < M) (hN : N ≤ 64) (hp : p < N) (hpc : pc t = nI p) (hop : co p = 12) (hz : ¬ ca p < 0) (ha : ca p ≤ 2) (hf : fd t = nI d) (hd : d < 8) : am_Out (b + 1) C Z N M co ca (fun post => wpX_execute post (nI C, nI Z, nI N, nI M, co, ca, st, pc, mk, ex, sd, fd, pn, sk, fk, fa, fs, pd, ho, aq, rl) (nI t)) := by
  have hM := I.1
  have qa : ¬ 2 < ca p := Int32.not_lt.mpr ha
  have qb : 0 ≤ ca p := Int32.not_lt.mp hz
  have q8 : ¬ nI (d) = 8 := fun q => by rw [am_eq8 (by omega)] at q; omega
  have K1 := am_K_s K hM
  refine ⟨st, (upd pc t (nI (p + 1))), (upd mk t (ca p)), ex, sd, (upd fd t (nI (d + 1))), pn, sk, (upd fk (t * 8 + d) 2), (upd fa (t * 8 + d) (ca p)), (upd fs (t * 8 + d) (mk t)), pd, ho, aq, rl, (am_I_mk (am_I_fr (am_I_fd (d := d + 1) I ht (by omega)) (fun q => absurd q (by decide))) ht), (am_K_pf K1 hM (by omega) hd hf (by decide)), fun post h => ?_⟩
  simp (disch := omega) only [wpX_execute, wpX_enterMask, wpX_clamp, wpX_pushFrame, hpc, hop, am_ne_12_1, am_ne_12_2, am_ne_12_3, am_ne_12_4, am_ne_12_5, am_ne_12_6, am_ne_12_7, am_ne_12_8, am_ne_12_9, am_ne_12_10, am_ne_12_11, ha, hz, qa, qb, hf, q8, nI_clamp, pk_us, am_uu, nI_1, nI_pred, am_ip, nI_add, am_m8, am_m4, vp_in_nI, true_and, and_true, forall_eq, true_implies, false_implies, not_true_eq_false, not_false_eq_true, am_ne_1_0, Int32.reduceLT, Int32.reduceLE]
  exact h
theorem am_op_end_0 (I : am_I M st mk ex sd fd pn fk fa) (K : am_K b M st fd fk fa ho aq rl) (ht : t < M) (hN : N ≤ 64) (hp : p < N) (hpc : pc t = nI p) (hop : co p = 13) (hf : fd t = 0) : am_Out (b + 1) C Z N M co ca (fun post => wpX_execute post (nI C, nI Z, nI N, nI M, co, ca, st, pc, mk, ex, sd, fd, pn, sk, fk, fa, fs, pd, ho, aq, rl) (nI t)) := by
  have hM := I.1
  obtain ⟨st', pc', mk', ex', sd', fd', pn', sk', fk', fa', fs', pd', ho', aq', rl', hI', hK', hX'⟩ := am_raise (C := C) (Z := Z) (N := N) (co := co) (ca := ca) (pc := (upd pc t (nI (p + 1)))) (sk := sk) (fs := fs) (pd := pd) (e := (-3)) I (am_K_s K hM) ht
  refine ⟨st', pc', mk', ex', sd', fd', pn', sk', fk', fa', fs', pd', ho', aq', rl', hI', hK', fun post h => ?_⟩
  simp (disch := omega) only [wpX_execute, wpX_endFrame, hpc, hop, am_ne_13_1, am_ne_13_2, am_ne_13_3, am_ne_13_4, am_ne_13_5, am_ne_13_6, am_ne_13_7, am_ne_13_8, am_ne_13_9, am_ne_13_10, am_ne_13_11, am_ne_13_12, hf, nI_clamp, pk_us, am_uu, nI_1, nI_pred, am_ip, nI_add, am_m8, am_m4, vp_in_nI, true_and, and_true, forall_eq, true_implies, false_implies, not_true_eq_false, not_false_eq_true, am_ne_1_0, Int32.reduceLT, Int32.reduceLE]
  exact hX' _ h
theorem am_op_end (I : am_I M st mk ex sd fd pn fk fa) (K : am_K b M st fd fk fa ho aq rl) (ht : t < M) (hN : N ≤ 64) (hp : p < N) (hpc : pc t = nI p) (hop : co p = 13) (hf : fd t = nI (d + 1)) (hd : d < 8) : am_Out (b + 1) C Z N M co ca (fun post => wpX_execute post (nI C, nI Z, nI N, nI M, co, ca, st, pc, mk, ex, sd, fd, pn, sk, fk, fa, fs, pd, ho, aq, rl) (nI t)) := by
  have hM := I.1
  have hF := I.2.2.2.2.1
  have q0 : ¬ nI (d + 1) = 0 := fun q => by rw [am_eq0 (by omega)] at q; omega
  refine ⟨st, (upd pc t (nI (p + 1))), (upd mk t (fs (t * 8 + d))), ex, sd, (upd fd t (nI d)), pn, sk, fk, fa, fs, pd, (am_ho fk fa ho (t * 8 + d)), aq, (am_rl fk fa rl (t * 8 + d)), am_I_fd (am_I_mk I ht) ht (by omega), am_K_pop (am_K_s K hM) hF hM (by omega) hd hf, fun post h => ?_⟩
  · simp (disch := omega) only [wpX_execute, wpX_endFrame, hpc, hop, hf, q0, am_ne_13_1, am_ne_13_2, am_ne_13_3, am_ne_13_4, am_ne_13_5, am_ne_13_6, am_ne_13_7, am_ne_13_8, am_ne_13_9, am_ne_13_10, am_ne_13_11, am_ne_13_12, nI_clamp, pk_us, am_uu, nI_1, nI_pred, am_ip, nI_add, am_m8, am_m4, vp_in_nI, true_and, and_true, forall_eq, true_implies, false_implies, not_true_eq_false, not_false_eq_true, am_ne_1_0, Int32.reduceLT, Int32.reduceLE]
    exact am_X_pop hF (by omega) hd hf h
theorem am_op_halt (I : am_I M st mk ex sd fd pn fk fa) (K : am_K b M st fd fk fa ho aq rl) (ht : t < M) (hN : N ≤ 64) (hp : p < N) (hpc : pc t = nI p) (ha : st t = 1) (hop : co p = 15) : am_Out (b + 1) C Z N M co ca (fun post => wpX_execute post (nI C, nI Z, nI N, nI M, co, ca, st, pc, mk, ex, sd, fd, pn, sk, fk, fa, fs, pd, ho, aq, rl) (nI t)) := by
  have hM := I.1
  obtain ⟨d, hd, hf⟩ := I.2.2.1 t
  obtain ⟨st', pc', mk', ex', sd', fd', pn', sk', fk', fa', fs', pd', ho', aq', rl', hI', hK', hX'⟩ := am_ha (C := C) (Z := Z) (N := N) (co := co) (ca := ca) (pc := upd pc t (nI (p + 1))) (sk := sk) (fs := fs) (pd := pd) ht (I.2.2.2.2.2.1 t ha) d mk fd ho rl hd hf I (am_K_s K hM)
  refine ⟨st', pc', mk', ex', sd', fd', pn', sk', fk', fa', fs', pd', ho', aq', rl', hI', hK', fun post h => ?_⟩
  · simp (disch := omega) only [wpX_execute, wpX_halt, hpc, hop, hf, am_ne_15_1, am_ne_15_2, am_ne_15_3, am_ne_15_4, am_ne_15_5, am_ne_15_6, am_ne_15_7, am_ne_15_8, am_ne_15_9, am_ne_15_10, am_ne_15_11, am_ne_15_12, am_ne_15_13, am_ne_15_14, nI_clamp, pk_us, am_uu, nI_1, nI_pred, am_ip, nI_add, am_m8, am_m4, vp_in_nI, true_and, and_true, forall_eq, true_implies, false_implies, not_true_eq_false, not_false_eq_true, am_ne_1_0, Int32.reduceLT, Int32.reduceLE]
    exact ⟨d + 1, hX' _ h (d + 1) (by omega)⟩
theorem am_op_lo (I : am_I M st mk ex sd fd pn fk fa) (K : am_K b M st fd fk fa ho aq rl) (ht : t < M) (hN : N ≤ 64) (hp : p < N) (hpc : pc t = nI p) (hop : co p < 1) : am_Out (b + 1) C Z N M co ca (fun post => wpX_execute post (nI C, nI Z, nI N, nI M, co, ca, st, pc, mk, ex, sd, fd, pn, sk, fk, fa, fs, pd, ho, aq, rl) (nI t)) := by
  have hM := I.1
  refine ⟨st, (upd pc t (nI (p + 1))), mk, ex, sd, fd, pn, sk, fk, fa, fs, pd, ho, aq, rl, I, am_K_s K hM, fun post h => ?_⟩
  · simp (disch := omega) only [wpX_execute, hpc, hop, nI_clamp, pk_us, am_uu, nI_1, nI_pred, am_ip, nI_add, am_m8, am_m4, vp_in_nI, true_and, and_true, forall_eq, true_implies, false_implies, not_true_eq_false, not_false_eq_true, am_ne_1_0, Int32.reduceLT, Int32.reduceLE]
    exact h
theorem am_op_hi (I : am_I M st mk ex sd fd pn fk fa) (K : am_K b M st fd fk fa ho aq rl) (ht : t < M) (hN : N ≤ 64) (hp : p < N) (hpc : pc t = nI p) (hlo : ¬ co p < 1) (hop : 15 < co p) : am_Out (b + 1) C Z N M co ca (fun post => wpX_execute post (nI C, nI Z, nI N, nI M, co, ca, st, pc, mk, ex, sd, fd, pn, sk, fk, fa, fs, pd, ho, aq, rl) (nI t)) := by
  have hM := I.1
  refine ⟨st, (upd pc t (nI (p + 1))), mk, ex, sd, fd, pn, sk, fk, fa, fs, pd, ho, aq, rl, I, am_K_s K hM, fun post h => ?_⟩
  · simp (disch := omega) only [wpX_execute, hpc, hop, hlo, nI_clamp, pk_us, am_uu, nI_1, nI_pred, am_ip, nI_add, am_m8, am_m4, vp_in_nI, true_and, and_true, forall_eq, true_implies, false_implies, not_true_eq_false, not_false_eq_true, am_ne_1_0, Int32.reduceLT, Int32.reduceLE]
    exact h
theorem am_op_br_neg (I : am_I M st mk ex sd fd pn fk fa) (K : am_K b M st fd fk fa ho aq rl) (ht : t < M) (hN : N ≤ 64) (hp : p < N) (hpc : pc t = nI p) (hop : co p = 14) (ha : ca p < 0) : am_Out (b + 1) C Z N M co ca (fun post => wpX_execute post (nI C, nI Z, nI N, nI M, co, ca, st, pc, mk, ex, sd, fd, pn, sk, fk, fa, fs, pd, ho, aq, rl) (nI t)) := by
  have hM := I.1
  obtain ⟨st', pc', mk', ex', sd', fd', pn', sk', fk', fa', fs', pd', ho', aq', rl', hI', hK', hX'⟩ := am_raise (C := C) (Z := Z) (N := N) (co := co) (ca := ca) (pc := (upd pc t (nI (p + 1)))) (sk := sk) (fs := fs) (pd := pd) (e := (-4)) I (am_K_s K hM) ht
  refine ⟨st', pc', mk', ex', sd', fd', pn', sk', fk', fa', fs', pd', ho', aq', rl', hI', hK', fun post h => ?_⟩
  simp (disch := omega) only [wpX_execute, wpX_enterBracket, wpX_isResource, hpc, hop, am_ne_14_1, am_ne_14_2, am_ne_14_3, am_ne_14_4, am_ne_14_5, am_ne_14_6, am_ne_14_7, am_ne_14_8, am_ne_14_9, am_ne_14_10, am_ne_14_11, am_ne_14_12, am_ne_14_13, ha, nI_clamp, pk_us, am_uu, nI_1, nI_pred, am_ip, nI_add, am_m8, am_m4, vp_in_nI, true_and, and_true, forall_eq, true_implies, false_implies, not_true_eq_false, not_false_eq_true, am_ne_1_0, Int32.reduceLT, Int32.reduceLE]
  exact hX' _ h
theorem am_op_br_big (I : am_I M st mk ex sd fd pn fk fa) (K : am_K b M st fd fk fa ho aq rl) (ht : t < M) (hN : N ≤ 64) (hp : p < N) (hpc : pc t = nI p) (hop : co p = 14) (hz : ¬ ca p < 0) (ha : 8 ≤ ca p) : am_Out (b + 1) C Z N M co ca (fun post => wpX_execute post (nI C, nI Z, nI N, nI M, co, ca, st, pc, mk, ex, sd, fd, pn, sk, fk, fa, fs, pd, ho, aq, rl) (nI t)) := by
  have hM := I.1
  have qa : ¬ ca p < 8 := Int32.not_lt.mpr ha
  have qb : 0 ≤ ca p := Int32.not_lt.mp hz
  have qc : ¬ ca p ≤ 7 := Int32.not_le.mpr (Int32.lt_of_lt_of_le (by decide) ha)
  obtain ⟨st', pc', mk', ex', sd', fd', pn', sk', fk', fa', fs', pd', ho', aq', rl', hI', hK', hX'⟩ := am_raise (C := C) (Z := Z) (N := N) (co := co) (ca := ca) (pc := (upd pc t (nI (p + 1)))) (sk := sk) (fs := fs) (pd := pd) (e := (-4)) I (am_K_s K hM) ht
  refine ⟨st', pc', mk', ex', sd', fd', pn', sk', fk', fa', fs', pd', ho', aq', rl', hI', hK', fun post h => ?_⟩
  simp (disch := omega) only [wpX_execute, wpX_enterBracket, wpX_isResource, hpc, hop, am_ne_14_1, am_ne_14_2, am_ne_14_3, am_ne_14_4, am_ne_14_5, am_ne_14_6, am_ne_14_7, am_ne_14_8, am_ne_14_9, am_ne_14_10, am_ne_14_11, am_ne_14_12, am_ne_14_13, ha, hz, qc, nI_clamp, pk_us, am_uu, nI_1, nI_pred, am_ip, nI_add, am_m8, am_m4, vp_in_nI, true_and, and_true, forall_eq, true_implies, false_implies, not_true_eq_false, not_false_eq_true, am_ne_1_0, Int32.reduceLT, Int32.reduceLE]
  exact hX' _ h
theorem am_op_br_full (I : am_I M st mk ex sd fd pn fk fa) (K : am_K b M st fd fk fa ho aq rl) (ht : t < M) (hN : N ≤ 64) (hp : p < N) (hpc : pc t = nI p) (hop : co p = 14) {r : Nat} (hr : r < 8) (ha : ca p = nI r) (hf : fd t = 8) : am_Out (b + 1) C Z N M co ca (fun post => wpX_execute post (nI C, nI Z, nI N, nI M, co, ca, st, pc, mk, ex, sd, fd, pn, sk, fk, fa, fs, pd, ho, aq, rl) (nI t)) := by
  have hM := I.1
  have qx : ¬ nI r < 0 := nI_pos (by omega)
  have qy : 0 ≤ nI r := nI_pos' (by omega)
  have qz : nI r < 8 := nI_lt (b := 8) hr (by omega)
  have qw : ¬ 8 ≤ nI r := nI_ge (b := 8) hr (by omega)
  have qv : nI r ≤ 7 := nI_le (b := 7) (by omega) (by omega)
  obtain ⟨st', pc', mk', ex', sd', fd', pn', sk', fk', fa', fs', pd', ho', aq', rl', hI', hK', hX'⟩ := am_raise (C := C) (Z := Z) (N := N) (co := co) (ca := ca) (pc := (upd pc t (nI (p + 1)))) (sk := sk) (fs := fs) (pd := pd) (e := (-3)) I (am_K_s K hM) ht
  refine ⟨st', pc', mk', ex', sd', fd', pn', sk', fk', fa', fs', pd', ho', aq', rl', hI', hK', fun post h => ?_⟩
  simp (disch := omega) only [wpX_execute, wpX_enterBracket, wpX_isResource, wpX_pushFrame, hpc, hop, am_ne_14_1, am_ne_14_2, am_ne_14_3, am_ne_14_4, am_ne_14_5, am_ne_14_6, am_ne_14_7, am_ne_14_8, am_ne_14_9, am_ne_14_10, am_ne_14_11, am_ne_14_12, am_ne_14_13, ha, qx, qw, qv, hf, nI_clamp, pk_us, am_uu, nI_1, nI_pred, am_ip, nI_add, am_m8, am_m4, vp_in_nI, true_and, and_true, forall_eq, true_implies, false_implies, not_true_eq_false, not_false_eq_true, am_ne_1_0, Int32.reduceLT, Int32.reduceLE]
  exact hX' _ h
theorem am_op_br (I : am_I M st mk ex sd fd pn fk fa) (K : am_K b M st fd fk fa ho aq rl) (ht : t < M) (hN : N ≤ 64) (hp : p < N) (hpc : pc t = nI p) (hop : co p = 14) {r : Nat} (hr : r < 8) (ha : ca p = nI r) (hf : fd t = nI d) (hd : d < 8) (hfree : ho r = -1) (hst : st t = 1) : am_Out (b + 1) C Z N M co ca (fun post => wpX_execute post (nI C, nI Z, nI N, nI M, co, ca, st, pc, mk, ex, sd, fd, pn, sk, fk, fa, fs, pd, ho, aq, rl) (nI t)) := by
  have hM := I.1
  have qx : ¬ nI r < 0 := nI_pos (by omega)
  have qy : 0 ≤ nI r := nI_pos' (by omega)
  have qz : nI r < 8 := nI_lt (b := 8) hr (by omega)
  have qw : ¬ 8 ≤ nI r := nI_ge (b := 8) hr (by omega)
  have qv : nI r ≤ 7 := nI_le (b := 7) (by omega) (by omega)
  have q8 : ¬ nI (d) = 8 := fun q => by rw [am_eq8 (by omega)] at q; omega
  have K1 := am_K_s K hM
  refine ⟨st, (upd pc t (nI (p + 1))), mk, ex, sd, (upd fd t (nI (d + 1))), pn, sk, (upd fk (t * 8 + d) 3), (upd fa (t * 8 + d) (nI r)), (upd fs (t * 8 + d) (mk t)), pd, (upd ho r (nI t)), (upd aq r (aq r + 1)), rl, (am_I_fr (am_I_fd (d := d + 1) I ht (by omega)) (fun _ => ⟨r, hr, rfl⟩)), (am_K_br K hM ht hd hf hr hfree hst), fun post h => ?_⟩
  simp (disch := omega) only [wpX_execute, wpX_enterBracket, wpX_isResource, wpX_pushFrame, hpc, hop, am_ne_14_1, am_ne_14_2, am_ne_14_3, am_ne_14_4, am_ne_14_5, am_ne_14_6, am_ne_14_7, am_ne_14_8, am_ne_14_9, am_ne_14_10, am_ne_14_11, am_ne_14_12, am_ne_14_13, ha, qx, qw, qv, hf, q8, nI_clamp, pk_us, am_uu, nI_1, nI_pred, am_ip, nI_add, am_m8, am_m4, vp_in_nI, true_and, and_true, forall_eq, true_implies, false_implies, not_true_eq_false, not_false_eq_true, am_ne_1_0, Int32.reduceLT, Int32.reduceLE]
  exact h
end
end
section
theorem am_ne_x : ¬ (10 : Int32) = 14 := by decide
section
variable {b C Z N M t p d : Nat} {co ca st pc mk ex sd fd pn sk fk fa fs pd ho aq rl : Nat → Int32}
theorem am_exec (I : am_I M st mk ex sd fd pn fk fa) (K : am_K b M st fd fk fa ho aq rl) (ht : t < M) (hN : N ≤ 64) (hp : p < N) (hpc : pc t = nI p) (ha : st t = 1) (hB : ∀ r, r < 8 → co p = 14 → ca p = nI r → ho r = -1) : am_Out (b + 1) C Z N M co ca (fun post => wpX_execute post (nI C, nI Z, nI N, nI M, co, ca, st, pc, mk, ex, sd, fd, pn, sk, fk, fa, fs, pd, ho, aq, rl) (nI t)) := by
  have hM := I.1
  obtain ⟨a, ha8, hs⟩ := I.2.1 t
  obtain ⟨g, hb8, hf⟩ := I.2.2.1 t
  by_cases h1 : co p = 1
  · by_cases q : a = 8
    · subst q
      exact am_op_push_full I K ht hN hp hpc h1 hs
    · exact am_op_push I K ht hN hp hpc h1 hs (by omega)
  by_cases h2 : co p = 2
  · cases a with
    | zero => exact am_op_pop_0 I K ht hN hp hpc h2 hs
    | succ a => exact am_op_pop I K ht hN hp hpc h2 hs (by omega)
  by_cases h3 : co p = 3
  · cases a with
    | zero => exact am_op_dup_0 I K ht hN hp hpc h3 hs
    | succ a =>
      by_cases q : a = 7
      · exact am_op_dup_full I K ht hN hp hpc h3 hs q
      · exact am_op_dup I K ht hN hp hpc h3 hs (by omega)
  by_cases h4 : co p = 4
  · by_cases q : a < 2
    · exact am_op_add_0 I K ht hN hp hpc h4 hs q
    · obtain ⟨a, rfl⟩ : ∃ v, a = v + 1 + 1 := ⟨a - 2, by omega⟩
      exact am_op_add I K ht hN hp hpc h4 hs (by omega)
  by_cases h5 : co p = 5
  · by_cases q : a < 2
    · exact am_op_sub_0 I K ht hN hp hpc h5 hs q
    · obtain ⟨a, rfl⟩ : ∃ v, a = v + 1 + 1 := ⟨a - 2, by omega⟩
      exact am_op_sub I K ht hN hp hpc h5 hs (by omega)
  by_cases h6 : co p = 6
  · exact am_op_jmp I K ht hN hp hpc h6
  by_cases h7 : co p = 7
  · cases a with
    | zero => exact am_op_jz_0 I K ht hN hp hpc h7 hs
    | succ a =>
      by_cases q : sk (t * 8 + a) = 0
      · exact am_op_jz_y I K ht hN hp hpc h7 hs (by omega) q
      · exact am_op_jz_n I K ht hN hp hpc h7 hs (by omega) q
  by_cases h8 : co p = 8
  · by_cases q : a = 8
    · subst q
      exact am_op_myid_full I K ht hN hp hpc h8 hs
    · exact am_op_myid I K ht hN hp hpc h8 hs (by omega)
  by_cases h9 : co p = 9
  · cases a with
    | zero => exact am_op_thr_0 I K ht hN hp hpc h9 hs
    | succ a => exact am_op_thr I K ht hN hp hpc h9 hs (by omega)
  by_cases h10 : co p = 10
  · cases a with
    | zero => exact am_op_tto_0 I K ht hN hp hpc h10 hs
    | succ a =>
      rcases pk_ix (ca p) (n := M) (by omega) with q | q | ⟨u, hu, q⟩
      · exact am_op_tto_neg I K ht hN hp hpc h10 hs (by omega) q
      · exact am_op_tto_big I K ht hN hp hpc h10 hs (by omega) (am_nb (by omega) q) q
      · by_cases w : u = t
        · subst w
          exact am_op_tto_me I K ht hN hp hpc h10 hs (by omega) q
        · by_cases x : st u = 1
          · obtain ⟨c, hc, hx⟩ := I.2.2.2.1 u
            by_cases z : c = 4
            · subst z
              exact am_op_tto_full (c := 0) I K ht hN hp hpc h10 hs (by omega) hu w q x hx
            · exact am_op_tto I K ht hN hp hpc h10 hs (by omega) hu w q x hx (by omega)
          · exact am_op_tto_dead (c := 0) I K ht hN hp hpc h10 hs (by omega) hu w q x
  by_cases h11 : co p = 11
  · by_cases q : g = 8
    · subst q
      exact am_op_catch_full I K ht hN hp hpc h11 hf
    · exact am_op_catch I K ht hN hp hpc h11 hf (by omega)
  by_cases h12 : co p = 12
  · by_cases z : ca p < 0
    · by_cases q : g = 8
      · subst q
        exact am_op_mask_neg_full I K ht hN hp hpc h12 z hf
      · exact am_op_mask_neg I K ht hN hp hpc h12 z hf (by omega)
    · by_cases y : ca p ≤ 2
      · by_cases q : g = 8
        · subst q
          exact am_op_mask_mid_full I K ht hN hp hpc h12 z y hf
        · exact am_op_mask_mid I K ht hN hp hpc h12 z y hf (by omega)
      · by_cases q : g = 8
        · subst q
          exact am_op_mask_big_full I K ht hN hp hpc h12 z (Int32.not_le.mp y) hf
        · exact am_op_mask_big I K ht hN hp hpc h12 z (Int32.not_le.mp y) hf (by omega)
  by_cases h13 : co p = 13
  · cases g with
    | zero => exact am_op_end_0 I K ht hN hp hpc h13 hf
    | succ g => exact am_op_end I K ht hN hp hpc h13 hf (by omega)
  by_cases h14 : co p = 14
  · rcases pk_ix (ca p) (n := 8) (by omega) with q | q | ⟨r, hr, q⟩
    · exact am_op_br_neg I K ht hN hp hpc h14 q
    · exact am_op_br_big I K ht hN hp hpc h14 (am_nb (M := 8) (by omega) q) q
    · by_cases w : g = 8
      · subst w
        exact am_op_br_full I K ht hN hp hpc h14 hr q hf
      · exact am_op_br I K ht hN hp hpc h14 hr q hf (by omega) (hB r hr h14 q) ha
  by_cases h15 : co p = 15
  · exact am_op_halt I K ht hN hp hpc ha h15
  by_cases hlo : co p < 1
  · exact am_op_lo I K ht hN hp hpc hlo
  by_cases hhi : 15 < co p
  · exact am_op_hi I K ht hN hp hpc hlo hhi
  refine ⟨st, pc, mk, ex, sd, fd, pn, sk, fk, fa, fs, pd, ho, aq, rl, I, am_K_s K hM, fun post _ => ?_⟩
  simp (disch := omega) only [wpX_execute, hpc, hlo, hhi, h1, h2, h3, h4, h5, h6, h7, h8, h9, h10, h11, h12, h13, h14, h15, nI_clamp, pk_us, am_uu, nI_1, nI_pred, am_ip, nI_add, am_m8, am_m4, vp_in_nI, true_and, and_true, forall_eq, true_implies, false_implies, not_true_eq_false, not_false_eq_true, am_ne_1_0, Int32.reduceLT, Int32.reduceLE]
theorem am_bl (I : am_I M st mk ex sd fd pn fk fa) (ht : t < M) (hN : N ≤ 64) : ∃ y : Int32, ∀ post : Int32 → Prop, post y → wpX_isBlocked post (nI C, nI Z, nI N, nI M, co, ca, st, pc, mk, ex, sd, fd, pn, sk, fk, fa, fs, pd, ho, aq, rl) (nI t) := by
  have hM := I.1
  obtain ⟨a, ha8, hs⟩ := I.2.1 t
  by_cases ha : st t = 1
  case neg =>
    refine ⟨0, fun post h => ?_⟩
    simp (disch := omega) only [wpX_isBlocked, wpX_isCodeAddress, wpX_isAlive, wpX_isThread, wpX_isResource, ha, am_ne_14_10, am_ne_x, nI_clamp, pk_us, am_uu, nI_1, nI_pred, am_ip, nI_add, am_m8, am_m4, vp_in_nI, true_and, and_true, forall_eq, true_implies, false_implies, not_true_eq_false, not_false_eq_true, am_ne_1_0, Int32.reduceLT, Int32.reduceLE]
    exact h
  rcases pk_ix (pc t) (n := N) (by omega) with hp | hp | ⟨p, hp, hpc⟩
  · refine ⟨0, fun post h => ?_⟩
    simp (disch := omega) only [wpX_isBlocked, wpX_isCodeAddress, wpX_isAlive, wpX_isThread, wpX_isResource, ha, hp, am_ne_14_10, am_ne_x, nI_clamp, pk_us, am_uu, nI_1, nI_pred, am_ip, nI_add, am_m8, am_m4, vp_in_nI, true_and, and_true, forall_eq, true_implies, false_implies, not_true_eq_false, not_false_eq_true, am_ne_1_0, Int32.reduceLT, Int32.reduceLE]
    exact h
  · have hz : ¬ pc t < 0 := am_nb (by omega) hp
    have hy : ¬ pc t < nI N := Int32.not_lt.mpr hp
    refine ⟨0, fun post h => ?_⟩
    simp (disch := omega) only [wpX_isBlocked, wpX_isCodeAddress, wpX_isAlive, wpX_isThread, wpX_isResource, ha, hz, hy, hp, am_ne_14_10, am_ne_x, nI_clamp, pk_us, am_uu, nI_1, nI_pred, am_ip, nI_add, am_m8, am_m4, vp_in_nI, true_and, and_true, forall_eq, true_implies, false_implies, not_true_eq_false, not_false_eq_true, am_ne_1_0, Int32.reduceLT, Int32.reduceLE]
    exact h
  have e1 : ¬ nI p < 0 := nI_pos (by omega)
  have e2 : ¬ nI N ≤ nI p := nI_ge hp (by omega)
  have e3 : nI p < nI N := nI_lt hp (by omega)
  by_cases h14 : co p = 14
  · rcases pk_ix (ca p) (n := 8) (by omega) with q | q | ⟨r, hr, q⟩
    · refine ⟨0, fun post h => ?_⟩
      simp (disch := omega) only [wpX_isBlocked, wpX_isCodeAddress, wpX_isAlive, wpX_isThread, wpX_isResource, ha, hpc, e1, e2, e3, h14, q, am_ne_14_10, am_ne_x, nI_clamp, pk_us, am_uu, nI_1, nI_pred, am_ip, nI_add, am_m8, am_m4, vp_in_nI, true_and, and_true, forall_eq, true_implies, false_implies, not_true_eq_false, not_false_eq_true, am_ne_1_0, Int32.reduceLT, Int32.reduceLE]
      exact h
    · have hz : ¬ ca p < 0 := am_nb (M := 8) (by omega) q
      have q8 : 8 ≤ ca p := q
      refine ⟨0, fun post h => ?_⟩
      simp (disch := omega) only [wpX_isBlocked, wpX_isCodeAddress, wpX_isAlive, wpX_isThread, wpX_isResource, ha, hpc, e1, e2, e3, h14, q8, hz, am_ne_14_10, am_ne_x, nI_clamp, pk_us, am_uu, nI_1, nI_pred, am_ip, nI_add, am_m8, am_m4, vp_in_nI, true_and, and_true, forall_eq, true_implies, false_implies, not_true_eq_false, not_false_eq_true, am_ne_1_0, Int32.reduceLT, Int32.reduceLE]
      exact h
    · have g1 : ¬ nI r < 0 := nI_pos (by omega)
      have g2 : ¬ 8 ≤ nI r := nI_ge (b := 8) hr (by omega)
      by_cases w : ho r = -1
      · refine ⟨0, fun post h => ?_⟩
        simp (disch := omega) only [wpX_isBlocked, wpX_isCodeAddress, wpX_isAlive, wpX_isThread, wpX_isResource, ha, hpc, e1, e2, e3, h14, q, g1, g2, w, am_ne_14_10, am_ne_x, nI_clamp, pk_us, am_uu, nI_1, nI_pred, am_ip, nI_add, am_m8, am_m4, vp_in_nI, true_and, and_true, forall_eq, true_implies, false_implies, not_true_eq_false, not_false_eq_true, am_ne_1_0, Int32.reduceLT, Int32.reduceLE]
        exact h
      · refine ⟨1, fun post h => ?_⟩
        simp (disch := omega) only [wpX_isBlocked, wpX_isCodeAddress, wpX_isAlive, wpX_isThread, wpX_isResource, ha, hpc, e1, e2, e3, h14, q, g1, g2, w, am_ne_14_10, am_ne_x, nI_clamp, pk_us, am_uu, nI_1, nI_pred, am_ip, nI_add, am_m8, am_m4, vp_in_nI, true_and, and_true, forall_eq, true_implies, false_implies, not_true_eq_false, not_false_eq_true, am_ne_1_0, Int32.reduceLT, Int32.reduceLE]
        exact h
  by_cases h10 : co p = 10
  · by_cases x : a < 1
    · have g0 : nI a < 1 := nI_lt (b := 1) x (by omega)
      refine ⟨0, fun post h => ?_⟩
      simp (disch := omega) only [wpX_isBlocked, wpX_isCodeAddress, wpX_isAlive, wpX_isThread, wpX_isResource, ha, hpc, e1, e2, e3, h10, hs, g0, am_ne_14_10, am_ne_x, nI_clamp, pk_us, am_uu, nI_1, nI_pred, am_ip, nI_add, am_m8, am_m4, vp_in_nI, true_and, and_true, forall_eq, true_implies, false_implies, not_true_eq_false, not_false_eq_true, am_ne_1_0, Int32.reduceLT, Int32.reduceLE]
      exact h
    have g0 : ¬ nI a < 1 := nI_nlt (b := 1) (by omega) (by omega)
    rcases pk_ix (ca p) (n := M) (by omega) with q | q | ⟨u, hu, q⟩
    · have qn : ¬ ca p = nI t := fun z => nI_pos (n := t) (by omega) (z ▸ q)
      refine ⟨0, fun post h => ?_⟩
      simp (disch := omega) only [wpX_isBlocked, wpX_isCodeAddress, wpX_isAlive, wpX_isThread, wpX_isResource, ha, hpc, e1, e2, e3, h10, hs, g0, q, qn, am_ne_14_10, am_ne_x, nI_clamp, pk_us, am_uu, nI_1, nI_pred, am_ip, nI_add, am_m8, am_m4, vp_in_nI, true_and, and_true, forall_eq, true_implies, false_implies, not_true_eq_false, not_false_eq_true, am_ne_1_0, Int32.reduceLT, Int32.reduceLE]
      exact h
    · have hz : ¬ ca p < 0 := am_nb (by omega) q
      have qn : ¬ ca p = nI t := fun z => nI_ge ht (by omega) (z ▸ q)
      refine ⟨0, fun post h => ?_⟩
      simp (disch := omega) only [wpX_isBlocked, wpX_isCodeAddress, wpX_isAlive, wpX_isThread, wpX_isResource, ha, hpc, e1, e2, e3, h10, hs, g0, q, hz, qn, am_ne_14_10, am_ne_x, nI_clamp, pk_us, am_uu, nI_1, nI_pred, am_ip, nI_add, am_m8, am_m4, vp_in_nI, true_and, and_true, forall_eq, true_implies, false_implies, not_true_eq_false, not_false_eq_true, am_ne_1_0, Int32.reduceLT, Int32.reduceLE]
      exact h
    · have g1 : ¬ nI u < 0 := nI_pos (by omega)
      have g2 : ¬ nI M ≤ nI u := nI_ge hu (by omega)
      by_cases w : u = t
      · subst w
        refine ⟨0, fun post h => ?_⟩
        simp (disch := omega) only [wpX_isBlocked, wpX_isCodeAddress, wpX_isAlive, wpX_isThread, wpX_isResource, ha, hpc, e1, e2, e3, h10, hs, g0, q, g1, g2, am_ne_14_10, am_ne_x, nI_clamp, pk_us, am_uu, nI_1, nI_pred, am_ip, nI_add, am_m8, am_m4, vp_in_nI, true_and, and_true, forall_eq, true_implies, false_implies, not_true_eq_false, not_false_eq_true, am_ne_1_0, Int32.reduceLT, Int32.reduceLE]
        exact h
      have qn : ¬ nI u = nI t := fun z => w ((nI_eq (by omega) (by omega)).mp z)
      by_cases y : st u = 1
      · by_cases z : pn u = 4
        · refine ⟨1, fun post h => ?_⟩
          simp (disch := omega) only [wpX_isBlocked, wpX_isCodeAddress, wpX_isAlive, wpX_isThread, wpX_isResource, ha, hpc, e1, e2, e3, h10, hs, g0, q, g1, g2, qn, y, z, am_ne_14_10, am_ne_x, nI_clamp, pk_us, am_uu, nI_1, nI_pred, am_ip, nI_add, am_m8, am_m4, vp_in_nI, true_and, and_true, forall_eq, true_implies, false_implies, not_true_eq_false, not_false_eq_true, am_ne_1_0, Int32.reduceLT, Int32.reduceLE]
          exact h
        · refine ⟨0, fun post h => ?_⟩
          simp (disch := omega) only [wpX_isBlocked, wpX_isCodeAddress, wpX_isAlive, wpX_isThread, wpX_isResource, ha, hpc, e1, e2, e3, h10, hs, g0, q, g1, g2, qn, y, z, am_ne_14_10, am_ne_x, nI_clamp, pk_us, am_uu, nI_1, nI_pred, am_ip, nI_add, am_m8, am_m4, vp_in_nI, true_and, and_true, forall_eq, true_implies, false_implies, not_true_eq_false, not_false_eq_true, am_ne_1_0, Int32.reduceLT, Int32.reduceLE]
          exact h
      · refine ⟨0, fun post h => ?_⟩
        simp (disch := omega) only [wpX_isBlocked, wpX_isCodeAddress, wpX_isAlive, wpX_isThread, wpX_isResource, ha, hpc, e1, e2, e3, h10, hs, g0, q, g1, g2, qn, y, am_ne_14_10, am_ne_x, nI_clamp, pk_us, am_uu, nI_1, nI_pred, am_ip, nI_add, am_m8, am_m4, vp_in_nI, true_and, and_true, forall_eq, true_implies, false_implies, not_true_eq_false, not_false_eq_true, am_ne_1_0, Int32.reduceLT, Int32.reduceLE]
        exact h
  refine ⟨0, fun post h => ?_⟩
  simp (disch := omega) only [wpX_isBlocked, wpX_isCodeAddress, wpX_isAlive, wpX_isThread, wpX_isResource, ha, hpc, e1, e2, e3, h14, h10, am_ne_14_10, am_ne_x, nI_clamp, pk_us, am_uu, nI_1, nI_pred, am_ip, nI_add, am_m8, am_m4, vp_in_nI, true_and, and_true, forall_eq, true_implies, false_implies, not_true_eq_false, not_false_eq_true, am_ne_1_0, Int32.reduceLT, Int32.reduceLE]
  exact h
theorem am_bl2 (I : am_I M st mk ex sd fd pn fk fa) (ht : t < M) (hN : N ≤ 64) (ha : st t = 1) : ∃ y : Int32, (∀ post : Int32 → Prop, post y → wpX_isBlocked post (nI C, nI Z, nI N, nI M, co, ca, st, pc, mk, ex, sd, fd, pn, sk, fk, fa, fs, pd, ho, aq, rl) (nI t)) ∧ (y = 0 → ∀ p r, p < N → pc t = nI p → r < 8 → co p = 14 → ca p = nI r → ho r = -1) := by
  have hM := I.1
  by_cases hB : ∃ p r, p < N ∧ pc t = nI p ∧ r < 8 ∧ co p = 14 ∧ ca p = nI r ∧ ¬ ho r = -1
  · obtain ⟨p, r, hp, hpc, hr, h14, q, w⟩ := hB
    have e1 : ¬ nI p < 0 := nI_pos (by omega)
    have e2 : ¬ nI N ≤ nI p := nI_ge hp (by omega)
    have g1 : ¬ nI r < 0 := nI_pos (by omega)
    have g2 : ¬ 8 ≤ nI r := nI_ge (b := 8) hr (by omega)
    refine ⟨1, fun post h => ?_, fun z => absurd z (by decide)⟩
    simp (disch := omega) only [wpX_isBlocked, wpX_isCodeAddress, wpX_isAlive, wpX_isThread, wpX_isResource, ha, hpc, e1, e2, h14, q, g1, g2, w, am_ne_14_10, am_ne_x, nI_clamp, pk_us, am_uu, nI_1, nI_pred, am_ip, nI_add, am_m8, am_m4, vp_in_nI, true_and, and_true, forall_eq, true_implies, false_implies, not_true_eq_false, not_false_eq_true, am_ne_1_0, Int32.reduceLT, Int32.reduceLE]
    exact h
  · obtain ⟨y, hy⟩ := am_bl (C := C) (Z := Z) (co := co) (ca := ca) (pc := pc) (sk := sk) (fs := fs) (pd := pd) (ho := ho) (aq := aq) (rl := rl) I ht hN
    refine ⟨y, hy, fun _ p r hp hpc hr h14 q => ?_⟩
    by_cases w : ho r = -1
    · exact w
    · exact absurd ⟨p, r, hp, hpc, hr, h14, q, w⟩ hB
end
end
section
def am_OutR (b C Z N M : Nat) (co ca : Nat → Int32) (WX : (Int32 → St2 → Prop) → Prop) : Prop := ∃ (r : Int32) (st pc mk ex sd fd pn sk fk fa fs pd ho aq rl : Nat → Int32), am_I M st mk ex sd fd pn fk fa ∧ am_K b M st fd fk fa ho aq rl ∧ (∀ post : Int32 → St2 → Prop, post r (nI C, nI Z, nI N, nI M, co, ca, st, pc, mk, ex, sd, fd, pn, sk, fk, fa, fs, pd, ho, aq, rl) → WX post)
section
variable {b C Z N M t p d : Nat} {co ca st pc mk ex sd fd pn sk fk fa fs pd ho aq rl : Nat → Int32}
theorem am_X_rem {e : Int32} {c : Nat} (ht : t < 4) (hc : c < 4) : ∀ (m i : Nat) (q : Nat → Int32), i + m = c → ∃ q' : Nat → Int32, ∀ (post : Int32 → St2 → Prop) (f : Nat), m < f → (∀ g, wX_removeOldestPending_26 post (nI t) (nI (t * 4 + c)) e (nI C) (nI Z) (nI N) (nI M) (g + 1) (nI (t * 4 + c)) co ca st pc mk ex sd fd pn sk fk fa fs q' ho aq rl) → wX_removeOldestPending_26 post (nI t) (nI (t * 4 + c)) e (nI C) (nI Z) (nI N) (nI M) f (nI (t * 4 + i)) co ca st pc mk ex sd fd pn sk fk fa fs q ho aq rl := by
  intro m
  induction m with
  | zero =>
    intro i q hi
    obtain rfl : i = c := by omega
    refine ⟨q, fun post f hf hp => ?_⟩
    obtain ⟨f, rfl⟩ : ∃ g, f = g + 1 := ⟨f - 1, by omega⟩
    exact hp f
  | succ m ih =>
    intro i q hi
    obtain ⟨q', H⟩ := ih (i + 1) (upd q (t * 4 + i) (q (t * 4 + (i + 1)))) (by omega)
    refine ⟨q', fun post f hf hp => ?_⟩
    obtain ⟨f, rfl⟩ : ∃ g, f = g + 1 := ⟨f - 1, by omega⟩
    have hq := H post f (by omega) hp
    rw [wX_removeOldestPending_26]
    refine br_f (nI_ge (by omega) (by omega)) ?_
    simp (disch := omega) only [Nat.add_assoc, nI_clamp, pk_us, am_uu, nI_1, nI_pred, am_ip, nI_add, am_m8, am_m4, vp_in_nI, true_and, and_true, forall_eq, true_implies, false_implies, not_true_eq_false, not_false_eq_true, am_ne_1_0, Int32.reduceLT, Int32.reduceLE]
    exact hq
theorem am_X_al (ht : t < M) (hM : M ≤ 4) (ha : st t = 1) {post : Int32 → Prop} (h : post 1) : wpX_isAlive post (nI C, nI Z, nI N, nI M, co, ca, st, pc, mk, ex, sd, fd, pn, sk, fk, fa, fs, pd, ho, aq, rl) (nI t) := by
  have e1 : ¬ nI t < 0 := nI_pos (by omega)
  have e2 : ¬ nI M ≤ nI t := nI_ge ht (by omega)
  simp (disch := omega) only [wpX_isAlive, wpX_isThread, e1, e2, ha, nI_clamp, pk_us, am_uu, nI_1, nI_pred, am_ip, nI_add, am_m8, am_m4, vp_in_nI, true_and, and_true, forall_eq, true_implies, false_implies, not_true_eq_false, not_false_eq_true, am_ne_1_0, Int32.reduceLT, Int32.reduceLE]
  exact h
theorem am_del (I : am_I M st mk ex sd fd pn fk fa) (K : am_K b M st fd fk fa ho aq rl) (ht : t < M) (ha : st t = 1) {c : Nat} {y : Int32} (hc : c < 4) (hn : pn t = nI (c + 1)) (hd : ∀ post : Int32 → Prop, post 1 → wpX_isDeliveryDue post (nI C, nI Z, nI N, nI M, co, ca, st, pc, mk, ex, sd, fd, pn, sk, fk, fa, fs, pd, ho, aq, rl) (nI t) y) (hbX : ∀ post : Int32 → Prop, post y → wpX_isBlocked post (nI C, nI Z, nI N, nI M, co, ca, st, pc, mk, ex, sd, fd, pn, sk, fk, fa, fs, pd, ho, aq, rl) (nI t)) : am_OutR b C Z N M co ca (fun post => wpX_step post (nI C, nI Z, nI N, nI M, co, ca, st, pc, mk, ex, sd, fd, pn, sk, fk, fa, fs, pd, ho, aq, rl) (nI t)) := by
  have hM := I.1
  obtain ⟨qX, RX⟩ := am_X_rem (C := C) (Z := Z) (N := N) (M := M) (co := co) (ca := ca) (st := st) (pc := pc) (mk := mk) (ex := ex) (sd := sd) (fd := fd) (pn := pn) (sk := sk) (fk := fk) (fa := fa) (fs := fs) (ho := ho) (aq := aq) (rl := rl) (t := t) (e := pd (t * 4)) (by omega) hc c 0 pd (by omega)
  simp only [Nat.add_zero] at RX
  obtain ⟨st', pc', mk', ex', sd', fd', pn', sk', fk', fa', fs', pd', ho', aq', rl', hI', hK', hX'⟩ := am_raise (C := C) (Z := Z) (N := N) (co := co) (ca := ca) (pc := pc) (sk := sk) (fs := fs) (pd := qX) (e := pd (t * 4)) (am_I_pn (d := c) I ht (by omega)) K ht
  refine ⟨3, st', pc', mk', ex', sd', fd', pn', sk', fk', fa', fs', pd', ho', aq', rl', hI', hK', fun post h => ?_⟩
  unfold wpX_step
  refine am_X_al ht hM ha (br_f (by decide) (hbX _ ?_))
  refine hd _ (br_f (by decide) ?_)
  simp (disch := omega) only [wpX_removeOldestPending, hn, nI_clamp, pk_us, am_uu, nI_1, nI_pred, am_ip, nI_add, am_m8, am_m4, vp_in_nI, true_and, and_true, forall_eq, true_implies, false_implies, not_true_eq_false, not_false_eq_true, am_ne_1_0, Int32.reduceLT, Int32.reduceLE]
  refine ⟨c + 1, RX _ (c + 1) (by omega) fun g => ?_⟩
  rw [wX_removeOldestPending_26]
  refine br_t (nI_le (by omega) (by omega)) ?_
  simp (disch := omega) only [hn, nI_clamp, pk_us, am_uu, nI_1, nI_pred, am_ip, nI_add, am_m8, am_m4, vp_in_nI, true_and, and_true, forall_eq, true_implies, false_implies, not_true_eq_false, not_false_eq_true, am_ne_1_0, Int32.reduceLT, Int32.reduceLE]
  exact hX' _ h
theorem am_nodel (I : am_I M st mk ex sd fd pn fk fa) (K : am_K b M st fd fk fa ho aq rl) (ht : t < M) (hN : N ≤ 64) (ha : st t = 1) {y : Int32} (hd : ∀ post : Int32 → Prop, post 0 → wpX_isDeliveryDue post (nI C, nI Z, nI N, nI M, co, ca, st, pc, mk, ex, sd, fd, pn, sk, fk, fa, fs, pd, ho, aq, rl) (nI t) y) (hbX : ∀ post : Int32 → Prop, post y → wpX_isBlocked post (nI C, nI Z, nI N, nI M, co, ca, st, pc, mk, ex, sd, fd, pn, sk, fk, fa, fs, pd, ho, aq, rl) (nI t)) (hB : y = 0 → ∀ p r, p < N → pc t = nI p → r < 8 → co p = 14 → ca p = nI r → ho r = -1) : am_OutR (b + 1) C Z N M co ca (fun post => wpX_step post (nI C, nI Z, nI N, nI M, co, ca, st, pc, mk, ex, sd, fd, pn, sk, fk, fa, fs, pd, ho, aq, rl) (nI t)) := by
  have hM := I.1
  have K1 := am_K_s K hM
  by_cases hb : y = 0
  · rcases pk_ix (pc t) (n := N) (by omega) with hp | hp | ⟨p, hp, hpc⟩
    · obtain ⟨st', pc', mk', ex', sd', fd', pn', sk', fk', fa', fs', pd', ho', aq', rl', hI', hK', hX'⟩ := am_raise (C := C) (Z := Z) (N := N) (co := co) (ca := ca) (pc := pc) (sk := sk) (fs := fs) (pd := pd) (e := -5) I K1 ht
      refine ⟨1, st', pc', mk', ex', sd', fd', pn', sk', fk', fa', fs', pd', ho', aq', rl', hI', hK', fun post h => ?_⟩
      unfold wpX_step; refine am_X_al ht hM ha (br_f (by decide) (hbX _ (hd _ (br_t rfl (br_t hb ?_))))); simp (disch := omega) only [wpX_isCodeAddress, hp, nI_clamp, pk_us, am_uu, nI_1, nI_pred, am_ip, nI_add, am_m8, am_m4, vp_in_nI, true_and, and_true, forall_eq, true_implies, false_implies, not_true_eq_false, not_false_eq_true, am_ne_1_0, Int32.reduceLT, Int32.reduceLE]; exact hX' _ h
    · have hz : ¬ pc t < 0 := am_nb (by omega) hp
      obtain ⟨st', pc', mk', ex', sd', fd', pn', sk', fk', fa', fs', pd', ho', aq', rl', hI', hK', hX'⟩ := am_raise (C := C) (Z := Z) (N := N) (co := co) (ca := ca) (pc := pc) (sk := sk) (fs := fs) (pd := pd) (e := -5) I K1 ht
      refine ⟨1, st', pc', mk', ex', sd', fd', pn', sk', fk', fa', fs', pd', ho', aq', rl', hI', hK', fun post h => ?_⟩
      unfold wpX_step; refine am_X_al ht hM ha (br_f (by decide) (hbX _ (hd _ (br_t rfl (br_t hb ?_))))); simp (disch := omega) only [wpX_isCodeAddress, hp, hz, nI_clamp, pk_us, am_uu, nI_1, nI_pred, am_ip, nI_add, am_m8, am_m4, vp_in_nI, true_and, and_true, forall_eq, true_implies, false_implies, not_true_eq_false, not_false_eq_true, am_ne_1_0, Int32.reduceLT, Int32.reduceLE]; exact hX' _ h
    · have e1 : ¬ nI p < 0 := nI_pos (by omega)
      have e2 : ¬ nI N ≤ nI p := nI_ge hp (by omega)
      obtain ⟨st', pc', mk', ex', sd', fd', pn', sk', fk', fa', fs', pd', ho', aq', rl', hI', hK', hX'⟩ := am_exec (C := C) (Z := Z) (N := N) (co := co) (ca := ca) (pc := pc) (sk := sk) (fs := fs) (pd := pd) I K ht hN hp hpc ha (fun r hr h14 q => hB hb p r hp hpc hr h14 q)
      refine ⟨1, st', pc', mk', ex', sd', fd', pn', sk', fk', fa', fs', pd', ho', aq', rl', hI', hK', fun post h => ?_⟩
      unfold wpX_step; refine am_X_al ht hM ha (br_f (by decide) (hbX _ (hd _ (br_t rfl (br_t hb ?_))))); simp (disch := omega) only [wpX_isCodeAddress, hpc, e1, e2, nI_clamp, pk_us, am_uu, nI_1, nI_pred, am_ip, nI_add, am_m8, am_m4, vp_in_nI, true_and, and_true, forall_eq, true_implies, false_implies, not_true_eq_false, not_false_eq_true, am_ne_1_0, Int32.reduceLT, Int32.reduceLE]; exact hX' _ h
  · refine ⟨2, st, pc, mk, ex, sd, fd, pn, sk, fk, fa, fs, pd, ho, aq, rl, I, K1, fun post h => ?_⟩
    unfold wpX_step
    exact am_X_al ht hM ha (br_f (by decide) (hbX _ (hd _ (br_t rfl (br_f hb h)))))
theorem am_step (I : am_I M st mk ex sd fd pn fk fa) (K : am_K b M st fd fk fa ho aq rl) (hN : N ≤ 64) (x : Int32) : am_OutR (b + 1) C Z N M co ca (fun post => wpX_step post (nI C, nI Z, nI N, nI M, co, ca, st, pc, mk, ex, sd, fd, pn, sk, fk, fa, fs, pd, ho, aq, rl) x) := by
  have hM := I.1
  have K1 := am_K_s K hM
  rcases pk_ix x (n := M) (by omega) with q | q | ⟨t, ht, rfl⟩
  · refine ⟨0, st, pc, mk, ex, sd, fd, pn, sk, fk, fa, fs, pd, ho, aq, rl, I, K1, fun post h => ?_⟩
    simp only [wpX_step, wpX_isAlive, wpX_isThread, q, nI_clamp, pk_us, am_uu, nI_1, nI_pred, am_ip, nI_add, am_m8, am_m4, vp_in_nI, true_and, and_true, forall_eq, true_implies, false_implies, not_true_eq_false, not_false_eq_true, am_ne_1_0, Int32.reduceLT, Int32.reduceLE]
    exact h
  · have hz : ¬ x < 0 := am_nb (by omega) q
    refine ⟨0, st, pc, mk, ex, sd, fd, pn, sk, fk, fa, fs, pd, ho, aq, rl, I, K1, fun post h => ?_⟩
    simp only [wpX_step, wpX_isAlive, wpX_isThread, q, hz, nI_clamp, pk_us, am_uu, nI_1, nI_pred, am_ip, nI_add, am_m8, am_m4, vp_in_nI, true_and, and_true, forall_eq, true_implies, false_implies, not_true_eq_false, not_false_eq_true, am_ne_1_0, Int32.reduceLT, Int32.reduceLE]
    exact h
  have e1 : ¬ nI t < 0 := nI_pos (by omega)
  have e2 : ¬ nI M ≤ nI t := nI_ge ht (by omega)
  by_cases ha : st t = 1
  case neg =>
    refine ⟨0, st, pc, mk, ex, sd, fd, pn, sk, fk, fa, fs, pd, ho, aq, rl, I, K1, fun post h => ?_⟩
    simp (disch := omega) only [wpX_step, wpX_isAlive, wpX_isThread, e1, e2, ha, nI_clamp, pk_us, am_uu, nI_1, nI_pred, am_ip, nI_add, am_m8, am_m4, vp_in_nI, true_and, and_true, forall_eq, true_implies, false_implies, not_true_eq_false, not_false_eq_true, am_ne_1_0, Int32.reduceLT, Int32.reduceLE]
    exact h
  obtain ⟨y, hbX, hB⟩ := am_bl2 (C := C) (Z := Z) (co := co) (ca := ca) (pc := pc) (sk := sk) (fs := fs) (pd := pd) (ho := ho) (aq := aq) (rl := rl) I ht hN ha
  obtain ⟨c, hc, hn⟩ := I.2.2.2.1 t
  cases c with
  | zero =>
    refine am_nodel I K ht hN ha (fun post h => ?_) hbX hB
    simp (disch := omega) only [wpX_isDeliveryDue, hn, nI_0, nI_clamp, pk_us, am_uu, nI_1, nI_pred, am_ip, nI_add, am_m8, am_m4, vp_in_nI, true_and, and_true, forall_eq, true_implies, false_implies, not_true_eq_false, not_false_eq_true, am_ne_1_0, Int32.reduceLT, Int32.reduceLE]
    exact h
  | succ c =>
    have e0 : ¬ nI (c + 1) = 0 := nI_ne0 (by omega) (by omega)
    by_cases m0 : mk t = 0
    · refine am_del I K1 ht ha (by omega) hn (fun post h => ?_) hbX
      simp (disch := omega) only [wpX_isDeliveryDue, hn, e0, m0, nI_clamp, pk_us, am_uu, nI_1, nI_pred, am_ip, nI_add, am_m8, am_m4, vp_in_nI, true_and, and_true, forall_eq, true_implies, false_implies, not_true_eq_false, not_false_eq_true, am_ne_1_0, Int32.reduceLT, Int32.reduceLE]
      exact h
    by_cases m1 : mk t = 1
    · by_cases hb0 : y = 0
      · refine am_nodel I K ht hN ha (fun post h => ?_) hbX hB
        simp (disch := omega) only [wpX_isDeliveryDue, hn, e0, m1, hb0, nI_clamp, pk_us, am_uu, nI_1, nI_pred, am_ip, nI_add, am_m8, am_m4, vp_in_nI, true_and, and_true, forall_eq, true_implies, false_implies, not_true_eq_false, not_false_eq_true, am_ne_1_0, Int32.reduceLT, Int32.reduceLE]
        exact h
      · refine am_del I K1 ht ha (by omega) hn (fun post h => ?_) hbX
        simp (disch := omega) only [wpX_isDeliveryDue, hn, e0, m1, hb0, nI_clamp, pk_us, am_uu, nI_1, nI_pred, am_ip, nI_add, am_m8, am_m4, vp_in_nI, true_and, and_true, forall_eq, true_implies, false_implies, not_true_eq_false, not_false_eq_true, am_ne_1_0, Int32.reduceLT, Int32.reduceLE]
        exact h
    · refine am_nodel I K ht hN ha (fun post h => ?_) hbX hB
      simp (disch := omega) only [wpX_isDeliveryDue, hn, e0, m0, m1, nI_clamp, pk_us, am_uu, nI_1, nI_pred, am_ip, nI_add, am_m8, am_m4, vp_in_nI, true_and, and_true, forall_eq, true_implies, false_implies, not_true_eq_false, not_false_eq_true, am_ne_1_0, Int32.reduceLT, Int32.reduceLE]
      exact h
theorem am_load (hZ : Z ≤ 64) (hN : N ≤ Z) (x y : Int32) : ∃ (r : Int32) (N' : Nat) (co' ca' : Nat → Int32), N' ≤ Z ∧ ∀ post : Int32 → St2 → Prop, post r (nI C, nI Z, nI N', nI M, co', ca', st, pc, mk, ex, sd, fd, pn, sk, fk, fa, fs, pd, ho, aq, rl) → wpX_load post (nI C, nI Z, nI N, nI M, co, ca, st, pc, mk, ex, sd, fd, pn, sk, fk, fa, fs, pd, ho, aq, rl) x y := by
  by_cases e : N = Z
  · subst e
    exact ⟨0, N, co, ca, hN, fun post h => br_t rfl h⟩
  have e1 : ¬ nI N = nI Z := fun q => e ((nI_eq (by omega) (by omega)).mp q)
  by_cases h0 : x < 0
  · exact ⟨0, N, co, ca, hN, fun post h => br_f e1 (br_t h0 h)⟩
  by_cases h1 : x ≤ 15
  · have hi : vp_in (nI N) 64 := vp_in_nI (by omega) (by omega)
    exact ⟨1, N + 1, _, _, by omega, fun post h => br_f e1 (br_f h0 (br_t h1 ⟨hi, nm_e ⟨hi, nm_e (nm_r (nI_1 N) h)⟩⟩))⟩
  · exact ⟨0, N, co, ca, hN, fun post h => br_f e1 (br_f h0 (br_f h1 h))⟩
theorem am_spawn (I : am_I M st mk ex sd fd pn fk fa) (K : am_K b M st fd fk fa ho aq rl) (hC : C ≤ 4) (hM : M ≤ C) (x : Int32) : ∃ (r : Int32) (M' : Nat) (st' pc' : Nat → Int32), M' ≤ C ∧ am_I M' st' mk ex sd fd pn fk fa ∧ am_K b M' st' fd fk fa ho aq rl ∧ ∀ post : Int32 → St2 → Prop, post r (nI C, nI Z, nI N, nI M', co, ca, st', pc', mk, ex, sd, fd, pn, sk, fk, fa, fs, pd, ho, aq, rl) → wpX_spawn post (nI C, nI Z, nI N, nI M, co, ca, st, pc, mk, ex, sd, fd, pn, sk, fk, fa, fs, pd, ho, aq, rl) x := by
  by_cases e : M = C
  · subst e
    exact ⟨-1, M, st, pc, hM, I, K, fun post h => br_t rfl h⟩
  have e1 : ¬ nI M = nI C := fun q => e ((nI_eq (by omega) (by omega)).mp q)
  refine ⟨nI M, M + 1, upd st M 1, upd pc M x, by omega, am_I_sp I (by omega), am_K_sp K (by omega), fun post h => ?_⟩
  simp (disch := omega) only [wpX_spawn, e1, nI_clamp, pk_us, am_uu, nI_1, nI_pred, am_ip, nI_add, am_m8, am_m4, vp_in_nI, true_and, and_true, forall_eq, true_implies, false_implies, not_true_eq_false, not_false_eq_true, am_ne_1_0, Int32.reduceLT, Int32.reduceLE]
  exact h
theorem am_throwTo (I : am_I M st mk ex sd fd pn fk fa) (x y : Int32) : ∃ (r : Int32) (pn' pd' : Nat → Int32), am_I M st mk ex sd fd pn' fk fa ∧ ∀ post : Int32 → St2 → Prop, post r (nI C, nI Z, nI N, nI M, co, ca, st, pc, mk, ex, sd, fd, pn', sk, fk, fa, fs, pd', ho, aq, rl) → wpX_throwTo post (nI C, nI Z, nI N, nI M, co, ca, st, pc, mk, ex, sd, fd, pn, sk, fk, fa, fs, pd, ho, aq, rl) x y := by
  have hM := I.1
  rcases pk_ix x (n := M) (by omega) with q | q | ⟨t, ht, rfl⟩
  · refine ⟨0, pn, pd, I, fun post h => ?_⟩
    simp only [wpX_throwTo, wpX_isAlive, wpX_isThread, q, nI_clamp, pk_us, am_uu, nI_1, nI_pred, am_ip, nI_add, am_m8, am_m4, vp_in_nI, true_and, and_true, forall_eq, true_implies, false_implies, not_true_eq_false, not_false_eq_true, am_ne_1_0, Int32.reduceLT, Int32.reduceLE]
    exact h
  · have hz : ¬ x < 0 := am_nb (by omega) q
    refine ⟨0, pn, pd, I, fun post h => ?_⟩
    simp only [wpX_throwTo, wpX_isAlive, wpX_isThread, q, hz, nI_clamp, pk_us, am_uu, nI_1, nI_pred, am_ip, nI_add, am_m8, am_m4, vp_in_nI, true_and, and_true, forall_eq, true_implies, false_implies, not_true_eq_false, not_false_eq_true, am_ne_1_0, Int32.reduceLT, Int32.reduceLE]
    exact h
  have e1 : ¬ nI t < 0 := nI_pos (by omega)
  have e2 : ¬ nI M ≤ nI t := nI_ge ht (by omega)
  by_cases ha : st t = 1
  case neg =>
    refine ⟨0, pn, pd, I, fun post h => ?_⟩
    simp (disch := omega) only [wpX_throwTo, wpX_isAlive, wpX_isThread, e1, e2, ha, nI_clamp, pk_us, am_uu, nI_1, nI_pred, am_ip, nI_add, am_m8, am_m4, vp_in_nI, true_and, and_true, forall_eq, true_implies, false_implies, not_true_eq_false, not_false_eq_true, am_ne_1_0, Int32.reduceLT, Int32.reduceLE]
    exact h
  obtain ⟨c, hc, hn⟩ := I.2.2.2.1 t
  by_cases c4 : c = 4
  · subst c4
    have hn : pn t = 4 := hn
    refine ⟨0, pn, pd, I, fun post h => ?_⟩
    simp (disch := omega) only [wpX_throwTo, wpX_isAlive, wpX_isThread, wpX_appendPending, e1, e2, ha, hn, nI_clamp, pk_us, am_uu, nI_1, nI_pred, am_ip, nI_add, am_m8, am_m4, vp_in_nI, true_and, and_true, forall_eq, true_implies, false_implies, not_true_eq_false, not_false_eq_true, am_ne_1_0, Int32.reduceLT, Int32.reduceLE]
    exact h
  have e4 : ¬ nI c = 4 := fun q => by rw [am_eq4 (by omega)] at q; omega
  refine ⟨1, upd pn t (nI (c + 1)), upd pd (t * 4 + c) y, am_I_pn I ht (by omega), fun post h => ?_⟩
  simp (disch := omega) only [wpX_throwTo, wpX_isAlive, wpX_isThread, wpX_appendPending, e1, e2, e4, ha, hn, nI_clamp, pk_us, am_uu, nI_1, nI_pred, am_ip, nI_add, am_m8, am_m4, vp_in_nI, true_and, and_true, forall_eq, true_implies, false_implies, not_true_eq_false, not_false_eq_true, am_ne_1_0, Int32.reduceLT, Int32.reduceLE]
  exact h
end
end
section
theorem am_cell {L : Nat} {xs : Nat → Int32} {post : Int32 → Prop} (hL : L ≤ 260) {y : Int32} {j : Nat} (hy : y = nI j) (hj : j < 2 ^ 31) (h : ∀ v, post v) : wpL_cell post L xs () y := by
  subst hy
  by_cases e : L ≤ j
  · exact br_t (nI_le e hj) (h 0)
  · exact br_f (nI_ge (by omega) (by omega)) ⟨vp_in_nI (by omega) (by omega), h _⟩
theorem am_opFor {post : Int32 → Prop} (h : ∀ v, post v) (x : Int32) : wpL_opFor post () x := by
  simp only [wpL_opFor, h, implies_true, and_self]
theorem am_argFor {post : Int32 → Prop} {z : Int32} (hz : ¬ z = 0) (h : ∀ v, post v) (x y : Int32) : wpL_argFor post () x y z := by
  simp only [wpL_argFor, h, hz, not_false_eq_true, implies_true, and_self]
def am_cn (fk fa : Nat → Int32) (u r : Nat) : Nat → Nat
  | 0 => 0
  | i + 1 => if fk (u * 8 + i) = 3 ∧ fa (u * 8 + i) = nI r then am_cn fk fa u r i + 1 else am_cn fk fa u r i
theorem am_cn_0 {fk fa : Nat → Int32} {u r : Nat} : ∀ d, (∀ j, j < d → ¬ (fk (u * 8 + j) = 3 ∧ fa (u * 8 + j) = nI r)) → am_cn fk fa u r d = 0 := by
  intro d
  induction d with
  | zero => exact fun _ => rfl
  | succ d ih =>
    intro h
    rw [am_cn, if_neg (h d (by omega))]
    exact ih fun j hj => h j (by omega)
theorem am_cn_1 {fk fa : Nat → Int32} {u r i : Nat} (hi : fk (u * 8 + i) = 3 ∧ fa (u * 8 + i) = nI r) : ∀ d, i < d → (∀ j, j < d → fk (u * 8 + j) = 3 ∧ fa (u * 8 + j) = nI r → j = i) → am_cn fk fa u r d = 1 := by
  intro d
  induction d with
  | zero => exact fun h => absurd h (Nat.not_lt_zero i)
  | succ d ih =>
    intro h g
    by_cases e : i = d
    · subst e
      rw [am_cn, if_pos hi, am_cn_0 i fun j hj w => absurd (g j (by omega) w) (by omega)]
    · rw [am_cn, if_neg fun w => e (g d (by omega) w).symm]
      exact ih (by omega) fun j hj => g j (by omega)
section
variable {b C Z N M t p d : Nat} {co ca st pc mk ex sd fd pn sk fk fa fs pd ho aq rl : Nat → Int32}
theorem am_gr {r : Nat} (hr : r < 8) {post : Int32 → Prop} : (post (ho r) → wpX_getResource post (nI C, nI Z, nI N, nI M, co, ca, st, pc, mk, ex, sd, fd, pn, sk, fk, fa, fs, pd, ho, aq, rl) (nI r) 0) ∧ (post (aq r) → wpX_getResource post (nI C, nI Z, nI N, nI M, co, ca, st, pc, mk, ex, sd, fd, pn, sk, fk, fa, fs, pd, ho, aq, rl) (nI r) 1) ∧ (post (rl r) → wpX_getResource post (nI C, nI Z, nI N, nI M, co, ca, st, pc, mk, ex, sd, fd, pn, sk, fk, fa, fs, pd, ho, aq, rl) (nI r) 2) := by
  have e1 : ¬ nI r < 0 := nI_pos (by omega)
  have e2 : ¬ 8 ≤ nI r := nI_ge (b := 8) hr (by omega)
  refine ⟨fun h => ?_, fun h => ?_, fun h => ?_⟩
  · simp (disch := omega) only [wpX_getResource, wpX_isResource, e1, e2, nI_clamp, pk_us, am_uu, nI_1, nI_pred, am_ip, nI_add, am_m8, am_m4, vp_in_nI, true_and, and_true, forall_eq, true_implies, false_implies, not_true_eq_false, not_false_eq_true, am_ne_1_0, Int32.reduceLT, Int32.reduceLE]
    exact h
  · simp (disch := omega) only [wpX_getResource, wpX_isResource, e1, e2, nI_clamp, pk_us, am_uu, nI_1, nI_pred, am_ip, nI_add, am_m8, am_m4, vp_in_nI, true_and, and_true, forall_eq, true_implies, false_implies, not_true_eq_false, not_false_eq_true, am_ne_1_0, Int32.reduceLT, Int32.reduceLE]
    exact h
  · simp (disch := omega) only [wpX_getResource, wpX_isResource, e1, e2, am_ne_2_0, am_ne_2_1, nI_clamp, pk_us, am_uu, nI_1, nI_pred, am_ip, nI_add, am_m8, am_m4, vp_in_nI, true_and, and_true, forall_eq, true_implies, false_implies, not_true_eq_false, not_false_eq_true, am_ne_1_0, Int32.reduceLT, Int32.reduceLE]
    exact h
theorem am_gt0 (hM : M ≤ 4) (ht : t < M) {post : Int32 → Prop} (h : post (st t)) : wpX_getThread post (nI C, nI Z, nI N, nI M, co, ca, st, pc, mk, ex, sd, fd, pn, sk, fk, fa, fs, pd, ho, aq, rl) (nI t) 0 := by
  have e1 : ¬ nI t < 0 := nI_pos (by omega)
  have e2 : ¬ nI M ≤ nI t := nI_ge ht (by omega)
  simp (disch := omega) only [wpX_getThread, wpX_isThread, e1, e2, nI_clamp, pk_us, am_uu, nI_1, nI_pred, am_ip, nI_add, am_m8, am_m4, vp_in_nI, true_and, and_true, forall_eq, true_implies, false_implies, not_true_eq_false, not_false_eq_true, am_ne_1_0, Int32.reduceLT, Int32.reduceLE]
  exact h
theorem am_gt5 (hM : M ≤ 4) (ht : t < M) (hf : fd t = nI d) {post : Int32 → Prop} (h : post (nI d)) : wpX_getThread post (nI C, nI Z, nI N, nI M, co, ca, st, pc, mk, ex, sd, fd, pn, sk, fk, fa, fs, pd, ho, aq, rl) (nI t) 5 := by
  have e1 : ¬ nI t < 0 := nI_pos (by omega)
  have e2 : ¬ nI M ≤ nI t := nI_ge ht (by omega)
  simp (disch := omega) only [wpX_getThread, wpX_isThread, e1, e2, hf, am_ne_5_0, am_ne_5_1, am_ne_5_2, am_ne_5_3, am_ne_5_4, nI_clamp, pk_us, am_uu, nI_1, nI_pred, am_ip, nI_add, am_m8, am_m4, vp_in_nI, true_and, and_true, forall_eq, true_implies, false_implies, not_true_eq_false, not_false_eq_true, am_ne_1_0, Int32.reduceLT, Int32.reduceLE]
  exact h
theorem am_gf {i : Nat} (hM : M ≤ 4) (ht : t < M) (hf : fd t = nI d) (hd : d ≤ 8) (hi : i < d) {post : Int32 → Prop} : (post (fk (t * 8 + i)) → wpX_getFrame post (nI C, nI Z, nI N, nI M, co, ca, st, pc, mk, ex, sd, fd, pn, sk, fk, fa, fs, pd, ho, aq, rl) (nI t) (nI i) 0) ∧ (post (fa (t * 8 + i)) → wpX_getFrame post (nI C, nI Z, nI N, nI M, co, ca, st, pc, mk, ex, sd, fd, pn, sk, fk, fa, fs, pd, ho, aq, rl) (nI t) (nI i) 1) := by
  have e1 : ¬ nI t < 0 := nI_pos (by omega)
  have e2 : ¬ nI M ≤ nI t := nI_ge ht (by omega)
  have e3 : ¬ nI i < 0 := nI_pos (by omega)
  have e4 : nI i < nI d := nI_lt hi (by omega)
  refine ⟨fun h => ?_, fun h => ?_⟩
  · simp (disch := omega) only [wpX_getFrame, wpX_isThread, e1, e2, e3, e4, hf, nI_clamp, pk_us, am_uu, nI_1, nI_pred, am_ip, nI_add, am_m8, am_m4, vp_in_nI, true_and, and_true, forall_eq, true_implies, false_implies, not_true_eq_false, not_false_eq_true, am_ne_1_0, Int32.reduceLT, Int32.reduceLE]
    exact h
  · simp (disch := omega) only [wpX_getFrame, wpX_isThread, e1, e2, e3, e4, hf, nI_clamp, pk_us, am_uu, nI_1, nI_pred, am_ip, nI_add, am_m8, am_m4, vp_in_nI, true_and, and_true, forall_eq, true_implies, false_implies, not_true_eq_false, not_false_eq_true, am_ne_1_0, Int32.reduceLT, Int32.reduceLE]
    exact h
variable {L n s k kc ks : Nat} {xs : Nat → Int32} {post : Int32 → Prop} {x2 x5 x6 x7 x9 : Int32} {J141 : Int32 → Int32 → Int32 → Int32 → Int32 → (Nat → Int32) → (Nat → Int32) → (Nat → Int32) → (Nat → Int32) → (Nat → Int32) → (Nat → Int32) → (Nat → Int32) → (Nat → Int32) → (Nat → Int32) → (Nat → Int32) → (Nat → Int32) → (Nat → Int32) → (Nat → Int32) → (Nat → Int32) → (Nat → Int32) → (Nat → Int32) → (Nat → Int32) → Prop} {J288 J387 : Int32 → Prop}
theorem am_415 {u r : Nat} (hM : M ≤ 4) (hu : u < M) (hf : fd u = nI d) (hd : d ≤ 8) (hc : wL_law_465 post L xs J141 J288 J387 x2 x5 x6 x7 (nI r) x9 (nI u) (nI (am_cn fk fa u r d)) kc ks (nI C) (nI Z) (nI N) (nI M) co ca st pc mk ex sd fd pn sk fk fa fs pd ho aq rl) : ∀ m i f, i + m = d → m < f → wL_law_415 post L xs J141 J288 J387 x2 x5 x6 x7 (nI r) x9 (nI u) (nI d) kc ks (nI C) (nI Z) (nI N) (nI M) co ca st pc mk ex sd fd pn sk fk fa fs pd ho aq rl f (nI (am_cn fk fa u r i)) (nI i) := by
  intro m
  induction m with
  | zero =>
    intro i f hi hf'
    obtain ⟨f, rfl⟩ : ∃ g, f = g + 1 := ⟨f - 1, by omega⟩
    obtain rfl : i = d := by omega
    rw [wL_law_415]
    exact br_t (nI_le (by omega) (by omega)) hc
  | succ m ih =>
    intro i f hi hf'
    obtain ⟨f, rfl⟩ : ∃ g, f = g + 1 := ⟨f - 1, by omega⟩
    have h := ih (i + 1) f (by omega) (by omega)
    rw [am_cn] at h
    rw [wL_law_415]
    refine br_f (nI_ge (by omega) (by omega)) (br_f (nI_ge (b := 8) (by omega) (by omega)) ((am_gf hM hu hf hd (by omega)).1 ?_))
    by_cases h3 : fk (u * 8 + i) = 3
    · refine br_t h3 ((am_gf hM hu hf hd (by omega)).2 ?_)
      by_cases h5 : fa (u * 8 + i) = nI r
      · rw [if_pos ⟨h3, h5⟩] at h
        exact br_t h5 (nm_r (nI_1 _) (nm_r (nI_1 i) h))
      · rw [if_neg fun w => h5 w.2] at h
        exact br_f h5 (nm_r (nI_1 i) h)
    · rw [if_neg fun w => h3 w.1] at h
      exact br_f h3 (nm_r (nI_1 i) h)
theorem am_387 {r : Nat} (I : am_I M st mk ex sd fd pn fk fa) (hcnt : ∀ u d, u < M → d ≤ 8 → fd u = nI d → (nI u = x9 → am_cn fk fa u r d = 1) ∧ (¬ nI u = x9 → am_cn fk fa u r d = 0)) (J : ∀ y : Int32, y = nI r + 1 → J288 y) : ∀ m u f, u + m = M → m < f → wL_law_387 post L xs J141 J288 x2 x5 x6 (nI M) (nI r) x9 kc ks (nI C) (nI Z) (nI N) (nI M) co ca st pc mk ex sd fd pn sk fk fa fs pd ho aq rl f (nI u) := by
  have hM := I.1
  intro m
  induction m with
  | zero =>
    intro u f hu hf'
    obtain ⟨f, rfl⟩ : ∃ g, f = g + 1 := ⟨f - 1, by omega⟩
    obtain rfl : u = M := by omega
    rw [wL_law_387]
    exact br_t (nI_le (by omega) (by omega)) J
  | succ m ih =>
    intro u f hu hf'
    obtain ⟨f, rfl⟩ : ∃ g, f = g + 1 := ⟨f - 1, by omega⟩
    have h := ih (u + 1) f (by omega) (by omega)
    obtain ⟨d, hd, hf⟩ := I.2.2.1 u
    obtain ⟨c1, c0⟩ := hcnt u d (by omega) hd hf
    rw [wL_law_387]
    refine br_f (nI_ge (by omega) (by omega)) (br_f (nI_ge (b := 4) (by omega) (by omega)) (am_gt5 hM (by omega) hf ⟨d + 1, ?_⟩))
    refine am_415 hM (by omega) hf hd ?_ d 0 (d + 1) (by omega) (by omega)
    by_cases e : nI u = x9
    · rw [c1 e]
      exact br_t e (br_t rfl (nm_r (nI_1 u) h))
    · rw [c0 e]
      exact br_f e (br_t rfl (nm_r (nI_1 u) h))
theorem am_288 (I : am_I M st mk ex sd fd pn fk fa) (K : am_K b M st fd fk fa ho aq rl) (hb : b ≤ 1000) (J : ∀ y : Int32, y = x6 + 2 → J141 y (nI C) (nI Z) (nI N) (nI M) co ca st pc mk ex sd fd pn sk fk fa fs pd ho aq rl) : ∀ m r f, r + m = 8 → m < f → wL_law_288 post L xs J141 x2 x5 x6 (nI M) kc ks (nI C) (nI Z) (nI N) (nI M) co ca st pc mk ex sd fd pn sk fk fa fs pd ho aq rl f (nI r) := by
  have hM := I.1
  intro m
  induction m with
  | zero =>
    intro r f hr hf'
    obtain ⟨f, rfl⟩ : ∃ g, f = g + 1 := ⟨f - 1, by omega⟩
    obtain rfl : r = 8 := by omega
    rw [wL_law_288]
    exact br_t (by decide) J
  | succ m ih =>
    intro r f hr hf'
    obtain ⟨f, rfl⟩ : ∃ g, f = g + 1 := ⟨f - 1, by omega⟩
    have h := ih (r + 1) f (by omega) (by omega)
    obtain ⟨a, h1, h2, h3⟩ := K r (by omega)
    rw [wL_law_288]
    refine br_f (nI_ge (b := 8) (by omega) (by omega)) ((am_gr (by omega)).1 ((am_gr (by omega)).2.1 ((am_gr (by omega)).2.2 ?_)))
    rcases h3 with ⟨g1, g2, g3⟩ | ⟨h', i, c, g1, g2, g3, g4, g5, g6, g7⟩
    · have z0 : ho r < 0 := by rw [g1]; decide
      have z1 : aq r - rl r = 0 := by rw [h2, g2, Int32.sub_self]
      have z2 : rl r ≤ aq r := by rw [h2, g2]; exact nI_le (by omega) (by omega)
      have z3 : ¬ ho r < -1 := by rw [g1]; decide
      have z4 : ho r < nI M := am_nn z0 (nI_pos' (by omega))
      refine br_t z0 (br_t z1 (br_t z2 (br_f z3 (br_t z4 (br_t z0 ⟨M + 1, ?_⟩)))))
      refine am_387 I (fun u d hu hd hf => ⟨fun e => ?_, fun _ => ?_⟩) (nm_r (nI_1 r) h) M 0 (M + 1) (by omega) (by omega)
      · rw [g1] at e
        exact absurd e (am_m1 (by omega))
      · exact am_cn_0 d fun j hj w => g3 u j (by omega) ⟨d, hd, hf, hj, w.1, w.2⟩
    · subst g3
      have z0 : ¬ ho r < 0 := by rw [g2]; exact nI_pos (by omega)
      have z1 : aq r - rl r = 1 := by
        rw [h2, g4, pk_sub (by omega), show c + 1 - c = 1 by omega]
        rfl
      have z2 : rl r ≤ aq r := by rw [h2, g4]; exact nI_le (by omega) (by omega)
      have z3 : ¬ ho r < -1 := fun z => z0 (Int32.lt_trans z (by decide))
      have z4 : ho r < nI M := by rw [g2]; exact nI_lt g1 (by omega)
      have fin : ∃ f', wL_law_387 post L xs J141 (wL_law_288 post L xs J141 x2 x5 x6 (nI M) kc ks (nI C) (nI Z) (nI N) (nI M) co ca st pc mk ex sd fd pn sk fk fa fs pd ho aq rl f) x2 x5 x6 (nI M) (nI r) (ho r) kc ks (nI C) (nI Z) (nI N) (nI M) co ca st pc mk ex sd fd pn sk fk fa fs pd ho aq rl f' 0 := by
        refine ⟨M + 1, am_387 I (fun u d hu hd hf => ⟨fun e => ?_, fun e => ?_⟩) (nm_r (nI_1 r) h) M 0 (M + 1) (by omega) (by omega)⟩
        · rw [g2, nI_eq (by omega) (by omega)] at e
          subst e
          obtain ⟨d', q1, q2, q3, q4, q5⟩ := g6
          rw [hf, nI_eq (by omega) (by omega)] at q2
          subst q2
          exact am_cn_1 ⟨q4, q5⟩ d q3 fun j hj w => (g7 u j (by omega) ⟨d, hd, hf, hj, w.1, w.2⟩).2
        · refine am_cn_0 d fun j hj w => e ?_
          rw [g2, (g7 u j (by omega) ⟨d, hd, hf, hj, w.1, w.2⟩).1]
      refine br_f z0 (br_t z1 (br_t z2 (br_f z3 (br_t z4 (br_f z0 ?_)))))
      have gt : wpX_getThread (fun v => (v = 1 → ∃ f', wL_law_387 post L xs J141 (wL_law_288 post L xs J141 x2 x5 x6 (nI M) kc ks (nI C) (nI Z) (nI N) (nI M) co ca st pc mk ex sd fd pn sk fk fa fs pd ho aq rl f) x2 x5 x6 (nI M) (nI r) (ho r) kc ks (nI C) (nI Z) (nI N) (nI M) co ca st pc mk ex sd fd pn sk fk fa fs pd ho aq rl f' 0) ∧ (¬ v = 1 → post 0)) (nI C, nI Z, nI N, nI M, co, ca, st, pc, mk, ex, sd, fd, pn, sk, fk, fa, fs, pd, ho, aq, rl) (nI h') 0 := am_gt0 hM g1 (br_t g5 fin)
      rw [← g2] at gt
      exact gt
theorem am_279 (I : am_I M st mk ex sd fd pn fk fa) (K : am_K b M st fd fk fa ho aq rl) (hb : b ≤ 1000) (J : ∀ y : Int32, y = x6 + 2 → J141 y (nI C) (nI Z) (nI N) (nI M) co ca st pc mk ex sd fd pn sk fk fa fs pd ho aq rl) : wL_law_279 post L xs J141 x2 x5 x6 kc ks (nI C) (nI Z) (nI N) (nI M) co ca st pc mk ex sd fd pn sk fk fa fs pd ho aq rl := by
  unfold wL_law_279
  exact ⟨9, am_288 I K hb J 8 0 9 (by omega) (by omega)⟩

theorem am_141 (hp : post 1) (hL : L ≤ 260) (hC : C ≤ 4) (hZ : Z ≤ 64) (hn : 0 < n) (hn2 : n < 100) (hs : 2 ≤ s) (hs2 : s < 100) : ∀ (m k f b N M : Nat) (co ca st pc mk ex sd fd pn sk fk fa fs pd ho aq rl : Nat → Int32), s ≤ k → k + 2 * m < 3000 → L ≤ k + 2 * m → m < f → b + m ≤ 1000 → N ≤ Z → M ≤ C → am_I M st mk ex sd fd pn fk fa → am_K b M st fd fk fa ho aq rl → wL_law_141 post L xs (nI n) (nI s) kc ks f (nI k) (nI C) (nI Z) (nI N) (nI M) co ca st pc mk ex sd fd pn sk fk fa fs pd ho aq rl := by
  have es : nI s - 2 = nI (s - 2) := pk_sub (b := 2) hs
  have n0 : ¬ nI n = 0 := nI_ne0 hn (by omega)
  intro m
  induction m with
  | zero =>
    intro k f b N M co ca st pc mk ex sd fd pn sk fk fa fs pd ho aq rl h1 h2 h3 h4 h5 h6 h7 I K
    obtain ⟨f, rfl⟩ : ∃ g, f = g + 1 := ⟨f - 1, by omega⟩
    have ne : ¬ nI k = nI s - 2 := fun q => by rw [es, nI_eq (by omega) (by omega)] at q; omega
    rw [wL_law_141]
    exact br_f ne (br_t (nI_le (by omega) (by omega)) hp)
  | succ m ih =>
    intro k f b N M co ca st pc mk ex sd fd pn sk fk fa fs pd ho aq rl h1 h2 h3 h4 h5 h6 h7 I K
    obtain ⟨f, rfl⟩ : ∃ g, f = g + 1 := ⟨f - 1, by omega⟩
    have ne : ¬ nI k = nI s - 2 := fun q => by rw [es, nI_eq (by omega) (by omega)] at q; omega
    have hM := I.1
    rw [wL_law_141]
    by_cases e : L ≤ k
    · exact br_f ne (br_t (nI_le (by omega) (by omega)) hp)
    refine br_f ne (br_f (nI_ge (by omega) (by omega)) ?_)
    unfold wL_law_157
    refine br_f (nI_nlt (by omega) (by omega)) (am_cell hL rfl (by omega) fun v => am_cell hL (nI_1 k) (by omega) fun w => ?_)
    intro x9 _ x10 _
    refine br_c (fun _ => br_c (fun _ => ?_) (fun _ => br_c (fun _ => ?_) (fun _ => ⟨n0, ?_⟩))) (fun _ => ?_)
    · obtain ⟨r, pn', pd', I', hX⟩ := am_throwTo (C := C) (Z := Z) (N := N) (co := co) (ca := ca) (pc := pc) (sk := sk) (fs := fs) (pd := pd) (ho := ho) (aq := aq) (rl := rl) I x10 w
      refine hX _ (am_279 I' K (by omega) (nm_r (nI_add k 2) ?_))
      exact ih (k + 2) f b N M _ _ _ _ _ _ _ _ _ _ _ _ _ _ _ _ _ (by omega) (by omega) (by omega) (by omega) (by omega) h6 h7 I' K
    · refine am_opFor (fun o => am_argFor n0 (fun a => ?_) _ _) _
      obtain ⟨r, N', co', ca', hN', hX⟩ := am_load (C := C) (N := N) (M := M) (co := co) (ca := ca) (st := st) (pc := pc) (mk := mk) (ex := ex) (sd := sd) (fd := fd) (pn := pn) (sk := sk) (fk := fk) (fa := fa) (fs := fs) (pd := pd) (ho := ho) (aq := aq) (rl := rl) hZ h6 o a
      refine hX _ (am_279 I K (by omega) (nm_r (nI_add k 2) ?_))
      exact ih (k + 2) f b N' M _ _ _ _ _ _ _ _ _ _ _ _ _ _ _ _ _ (by omega) (by omega) (by omega) (by omega) (by omega) hN' h7 I K
    · obtain ⟨r, M', st', pc', hM', I', K', hX⟩ := am_spawn (Z := Z) (N := N) (co := co) (ca := ca) (pc := pc) (sk := sk) (fs := fs) (pd := pd) I K hC h7 ((w &&& 255) - (w &&& 255) / nI n * nI n)
      refine hX _ (am_279 I' K' (by omega) (nm_r (nI_add k 2) ?_))
      exact ih (k + 2) f b N M' _ _ _ _ _ _ _ _ _ _ _ _ _ _ _ _ _ (by omega) (by omega) (by omega) (by omega) (by omega) h6 hM' I' K'
    · obtain ⟨r, st', pc', mk', ex', sd', fd', pn', sk', fk', fa', fs', pd', ho', aq', rl', I', K', hX⟩ := am_step (C := C) (Z := Z) (N := N) (co := co) (ca := ca) (pc := pc) (sk := sk) (fs := fs) (pd := pd) I K (by omega) x10
      refine hX _ (am_279 I' K' (by omega) (nm_r (nI_add k 2) ?_))
      exact ih (k + 2) f (b + 1) N M _ _ _ _ _ _ _ _ _ _ _ _ _ _ _ _ _ (by omega) (by omega) (by omega) (by omega) (by omega) h6 h7 I' K'
theorem am_start (hp : post 1) (hL : L ≤ 260) (hC : C ≤ 4) (hZ : Z ≤ 64) (hn : 0 < n) (hn2 : n < 100) (hs2 : s < 90) (hN : N ≤ Z) (hM : M ≤ C) (I : am_I M st mk ex sd fd pn fk fa) (K : am_K 0 M st fd fk fa ho aq rl) : wL_law_141 post L xs (nI n) (nI (s + 2)) kc ks (L + 2) (nI s) (nI C) (nI Z) (nI N) (nI M) co ca st pc mk ex sd fd pn sk fk fa fs pd ho aq rl := by
  have es : nI (s + 2) - 2 = nI s := pk_sub (b := 2) (by omega)
  rw [wL_law_141]
  refine br_t es.symm ?_
  unfold wL_law_157
  refine br_t (nI_lt (by omega) (by omega)) (am_279 I K (by omega) (nm_r (nI_add s 2) ?_))
  exact am_141 hp hL hC hZ hn hn2 (by omega) (by omega) L (s + 2) (L + 1) 0 N M _ _ _ _ _ _ _ _ _ _ _ _ _ _ _ _ _ (by omega) (by omega) (by omega) (by omega) (by omega) hN hM I K
theorem am_96 {q g : Nat} (hp : post 1) (hL : L ≤ 260) (hC : C ≤ 4) (hZ : Z ≤ 64) (hn : 0 < n) (hn2 : n < 50) (hq : q < 60) (hg : g < 10) (hN : N ≤ Z) : ∀ (m j f M : Nat) (st pc : Nat → Int32), j + m = g → m < f → M ≤ C → am_I M st mk ex sd fd pn fk fa → am_K 0 M st fd fk fa ho aq rl → wL_law_96 post L xs (nI n) (nI q) (nI g) kc ks f (nI j) (nI C) (nI Z) (nI N) (nI M) co ca st pc mk ex sd fd pn sk fk fa fs pd ho aq rl := by
  have n0 : ¬ nI n = 0 := nI_ne0 hn (by omega)
  intro m
  induction m with
  | zero =>
    intro j f M st pc hj hf hM I K
    obtain ⟨f, rfl⟩ : ∃ g, f = g + 1 := ⟨f - 1, by omega⟩
    obtain rfl : j = g := by omega
    rw [wL_law_96]
    refine br_t (nI_le (by omega) (by omega)) (nm_r (nI_add q 5) (nm_r (pk_sub (a := q + 5) (b := 2) (by omega)) ⟨L + 2, ?_⟩))
    exact am_start (s := q + 3) hp hL hC hZ hn (by omega) (by omega) hN hM I K
  | succ m ih =>
    intro j f M st pc hj hf hM I K
    obtain ⟨f, rfl⟩ : ∃ g, f = g + 1 := ⟨f - 1, by omega⟩
    rw [wL_law_96]
    refine br_f (nI_ge (by omega) (by omega)) (am_cell hL ((congrArg (· + nI j) (nI_1 q)).trans (nI_add _ _)) (by omega) fun v => ⟨n0, ?_⟩)
    obtain ⟨r, M', st', pc', hM', I', K', hX⟩ := am_spawn (Z := Z) (N := N) (co := co) (ca := ca) (pc := pc) (sk := sk) (fs := fs) (pd := pd) I K hC hM ((v &&& 255) - (v &&& 255) / nI n * nI n)
    exact hX _ (nm_r (nI_1 j) (ih (j + 1) f M' st' pc' (by omega) (by omega) hM' I' K'))
theorem am_33 (hp : post 1) (hL : L ≤ 260) (hC : C ≤ 4) (hZ : Z ≤ 64) (hn : 0 < n) (hn2 : n < 50) (hM : M ≤ C) (I : am_I M st mk ex sd fd pn fk fa) (K : am_K 0 M st fd fk fa ho aq rl) : ∀ (m i f N : Nat) (co ca : Nat → Int32), i + m = n → m < f → N ≤ Z → wL_law_33 post L xs (nI n) kc ks f (nI i) (nI C) (nI Z) (nI N) (nI M) co ca st pc mk ex sd fd pn sk fk fa fs pd ho aq rl := by
  have n0 : ¬ nI n = 0 := nI_ne0 hn (by omega)
  intro m
  induction m with
  | zero =>
    intro i f N co ca hi hf hN
    obtain ⟨f, rfl⟩ : ∃ g, f = g + 1 := ⟨f - 1, by omega⟩
    obtain rfl : i = n := by omega
    rw [wL_law_33]
    refine br_t (nI_le (by omega) (by omega)) (nm_r (nI_add 2 i) (am_cell hL rfl (by omega) fun v => ?_))
    obtain ⟨j, hj, ej⟩ := pk_andE v (m := 3) 2 (by decide)
    refine nm_r ((congrArg (1 + ·) ej).trans (nI_add 1 j)) ⟨1 + j + 1, ?_⟩
    exact am_96 hp hL hC hZ hn hn2 (by omega) (by omega) hN (1 + j) 0 (1 + j + 1) M st pc (by omega) (by omega) hM I K
  | succ m ih =>
    intro i f N co ca hi hf hN
    obtain ⟨f, rfl⟩ : ∃ g, f = g + 1 := ⟨f - 1, by omega⟩
    rw [wL_law_33]
    refine br_f (nI_ge (by omega) (by omega)) (am_cell hL (nI_add 2 i) (by omega) fun v => am_opFor (fun o => am_argFor n0 (fun a => ?_) _ _) _)
    obtain ⟨r, N', co', ca', hN', hX⟩ := am_load (C := C) (N := N) (M := M) (co := co) (ca := ca) (st := st) (pc := pc) (mk := mk) (ex := ex) (sd := sd) (fd := fd) (pn := pn) (sk := sk) (fk := fk) (fa := fa) (fs := fs) (pd := pd) (ho := ho) (aq := aq) (rl := rl) hZ hN o a
    exact hX _ (nm_r (nI_1 i) (ih (i + 1) f N' co' ca' (by omega) (by omega) hN'))
end
def am_h : Nat → Nat → Int32
  | 0 => fun _ => 0
  | i + 1 => upd (am_h i) i (-1)
theorem am_h_lt : ∀ i r, r < i → am_h i r = -1 := by
  intro i
  induction i with
  | zero => exact fun r h => absurd h (Nat.not_lt_zero r)
  | succ i ih =>
    intro r h
    rw [am_h]
    by_cases e : r = i
    · rw [e, pk_us]
    · rw [pk_un e]
      exact ih r (by omega)
theorem am_X_ini {a b : Int32} {mc ms kc ks : Nat} {post : St2 → Prop} (h : post (a, b, 0, 0, (fun _ => 0), (fun _ => 0), (fun _ => 0), (fun _ => 0), (fun _ => 0), (fun _ => 0), (fun _ => 0), (fun _ => 0), (fun _ => 0), (fun _ => 0), (fun _ => 0), (fun _ => 0), (fun _ => 0), (fun _ => 0), am_h 8, (fun _ => 0), (fun _ => 0))) : ∀ m i f, i + m = 8 → m < f → wX_init_167 post mc ms kc ks a b 0 0 f (nI i) (fun _ => 0) (fun _ => 0) (fun _ => 0) (fun _ => 0) (fun _ => 0) (fun _ => 0) (fun _ => 0) (fun _ => 0) (fun _ => 0) (fun _ => 0) (fun _ => 0) (fun _ => 0) (fun _ => 0) (fun _ => 0) (am_h i) (fun _ => 0) (fun _ => 0) := by
  intro m
  induction m with
  | zero =>
    intro i f hi hf
    obtain ⟨f, rfl⟩ : ∃ g, f = g + 1 := ⟨f - 1, by omega⟩
    obtain rfl : i = 8 := by omega
    rw [wX_init_167]
    exact br_t (by decide) h
  | succ m ih =>
    intro i f hi hf
    obtain ⟨f, rfl⟩ : ∃ g, f = g + 1 := ⟨f - 1, by omega⟩
    rw [wX_init_167]
    refine br_f (nI_ge (b := 8) (by omega) (by omega)) ?_
    simp (disch := omega) only [nI_clamp, pk_us, am_uu, nI_1, nI_pred, am_ip, nI_add, am_m8, am_m4, vp_in_nI, true_and, and_true, forall_eq, true_implies, false_implies, not_true_eq_false, not_false_eq_true, am_ne_1_0, Int32.reduceLT, Int32.reduceLE]
    exact ih (i + 1) f (by omega) (by omega)
theorem am_cl {x a b : Int32} {m n : Nat} (ha : a = nI m) (hb : b = nI n) (hmn : m ≤ n) (hn : n < 2 ^ 31) : ∃ c : Nat, c ≤ n ∧ ((¬ a ≤ x ∧ nI c = a) ∨ (a ≤ x ∧ ¬ x ≤ b ∧ nI c = b) ∨ (a ≤ x ∧ x ≤ b ∧ nI c = x)) := by
  by_cases h : a ≤ x
  · by_cases g : x ≤ b
    · obtain ⟨j, hj, rfl⟩ := nI_of (x := x) (fun z => absurd (Int32.lt_of_le_of_lt h z) (by rw [ha]; exact nI_pos (by omega)))
      rw [hb, nI_leI hj hn] at g
      exact ⟨j, g, Or.inr (Or.inr ⟨h, by rw [hb]; exact nI_le g hn, rfl⟩)⟩
    · exact ⟨n, Nat.le_refl n, Or.inr (Or.inl ⟨h, g, hb.symm⟩)⟩
  · exact ⟨m, hmn, Or.inl ⟨h, ha.symm⟩⟩
theorem am_vX {x a b : Int32} {c : Nat} (h : (¬ a ≤ x ∧ nI c = a) ∨ (a ≤ x ∧ ¬ x ≤ b ∧ nI c = b) ∨ (a ≤ x ∧ x ≤ b ∧ nI c = x)) {post : Int32 → Prop} (hp : post (nI c)) : wpX_clamp post () x a b := by
  rcases h with ⟨h1, h2⟩ | ⟨h1, h2, h3⟩ | ⟨h1, h2, h3⟩
  · exact br_f h1 (h2 ▸ hp)
  · exact br_t h1 (br_f h2 (h3 ▸ hp))
  · exact br_t h1 (br_t h2 (h3 ▸ hp))
theorem am_I0 : am_I 0 (fun _ => 0) (fun _ => 0) (fun _ => 0) (fun _ => 0) (fun _ => 0) (fun _ => 0) (fun _ => 0) (fun _ => 0) := by
  refine ⟨by omega, fun _ => ⟨0, by omega, rfl⟩, fun _ => ⟨0, by omega, rfl⟩, fun _ => ⟨0, by omega, rfl⟩, fun j hj => ?_, fun _ _ => rfl, fun _ _ => rfl, fun _ _ => rfl, fun _ _ => rfl, fun _ _ => rfl, fun _ _ => rfl⟩
  exact absurd (show (0 : Int32) = 3 from hj) (by decide)
theorem am_K0 : am_K 0 0 (fun _ => 0) (fun _ => 0) (fun _ => 0) (fun _ => 0) (am_h 8) (fun _ => 0) (fun _ => 0) := by
  intro r hr
  refine ⟨0, by omega, rfl, Or.inl ⟨am_h_lt 8 r hr, rfl, fun u j hu z => ?_⟩⟩
  obtain ⟨d, h1, h2, h3, h4, h5⟩ := z
  exact absurd (show (0 : Int32) = 3 from h4) (by decide)
theorem i_vc (xs : Nat → Int32) (L : Nat) (hL : L ≤ 260) : wpL_law (fun r => r = 1) L xs := by
  refine am_cell hL (j := 0) rfl (by omega) fun v => ⟨17, 324, by omega, by omega, ?_⟩
  obtain ⟨c, hc, Hc⟩ := am_cl (x := 2 + (v &&& 3)) (a := 2) (b := 4) (m := 2) (n := 4) rfl rfl (by omega) (by omega)
  obtain ⟨z, hz, Hz⟩ := am_cl (x := 64) (a := 8) (b := 64) (m := 8) (n := 64) rfl rfl (by omega) (by omega)
  unfold wpX_init
  refine ⟨by omega, by omega, by omega, by omega, by omega, by omega, by omega, by omega, by omega, by omega, by omega, by omega, by omega, by omega, by omega, by omega, by omega, by omega, by omega, by omega, by omega, by omega, by omega, by omega, by omega, by omega, by omega, by omega, by omega, by omega, by omega, by omega, by omega, by omega, am_vX Hc (am_vX Hz ⟨9, am_X_ini ?_ 8 0 9 (by omega) (by omega)⟩)⟩
  refine am_cell hL (j := 1) rfl (by omega) fun w => ?_
  obtain ⟨j, hj, ej⟩ := pk_andE w (m := 15) 4 (by decide)
  refine nm_r ((congrArg (8 + ·) ej).trans (nI_add 8 j)) ⟨8 + j + 1, ?_⟩
  exact am_33 (post := fun r => r = 1) (n := 8 + j) (C := c) (Z := z) (M := 0) rfl hL hc hz (by omega) (by omega) (by omega) am_I0 am_K0 (8 + j) 0 (8 + j + 1) 0 _ _ (by omega) (by omega) (by omega)
end
