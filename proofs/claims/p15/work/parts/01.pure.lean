theorem am_uu {f : Nat → Int32} {k : Nat} {x y : Int32} : upd (upd f k x) k y = upd f k y := by
  funext j
  by_cases h : j = k
  · simp only [upd, h, if_true]
  · simp only [upd, if_neg h]
theorem am_uk {f : Nat → Int32} {k : Nat} {x : Int32} (hx : f k = x) : upd f k x = f := by
  funext j
  by_cases h : j = k
  · rw [h, pk_us, hx]
  · exact pk_un h
theorem am_m8 (t : Nat) : nI t * 8 = nI (t * 8) := pk_mul t 8
theorem am_m4 (t : Nat) : nI t * 4 = nI (t * 4) := pk_mul t 4
theorem am_eq {d b : Nat} {y : Int32} (hy : y = nI b) (h : d < 2 ^ 31) (hb : b < 2 ^ 31) : nI d = y ↔ d = b := by
  rw [hy]
  exact nI_eq h hb
theorem am_eq0 {d : Nat} (h : d < 2 ^ 31) : nI d = 0 ↔ d = 0 := am_eq rfl h (by omega)
theorem am_eq1 {d : Nat} (h : d < 2 ^ 31) : nI d = 1 ↔ d = 1 := am_eq rfl h (by omega)
theorem am_eq2 {d : Nat} (h : d < 2 ^ 31) : nI d = 2 ↔ d = 2 := am_eq rfl h (by omega)
theorem am_eq3 {d : Nat} (h : d < 2 ^ 31) : nI d = 3 ↔ d = 3 := am_eq rfl h (by omega)
theorem am_eq4 {d : Nat} (h : d < 2 ^ 31) : nI d = 4 ↔ d = 4 := am_eq rfl h (by omega)
theorem am_eq8 {d : Nat} (h : d < 2 ^ 31) : nI d = 8 ↔ d = 8 := am_eq rfl h (by omega)
theorem am_lt0 {d : Nat} (h : d < 2 ^ 31) : ¬ nI d < 0 := nI_pos h
theorem am_lt1 {d : Nat} (h : d < 2 ^ 31) : nI d < 1 ↔ d < 1 := nI_ltI (b := 1) h (by omega)
theorem am_lt2 {d : Nat} (h : d < 2 ^ 31) : nI d < 2 ↔ d < 2 := nI_ltI (b := 2) h (by omega)
theorem am_lt4 {d : Nat} (h : d < 2 ^ 31) : nI d < 4 ↔ d < 4 := nI_ltI (b := 4) h (by omega)
theorem am_lt8 {d : Nat} (h : d < 2 ^ 31) : nI d < 8 ↔ d < 8 := nI_ltI (b := 8) h (by omega)
theorem am_le0 {d : Nat} (h : d < 2 ^ 31) : nI d ≤ 0 ↔ d ≤ 0 := nI_leI (b := 0) h (by omega)
theorem am_ge1 {d : Nat} (h : d < 2 ^ 31) : 1 ≤ nI d ↔ 1 ≤ d := nI_leI (a := 1) (by omega) h
theorem am_ge4 {d : Nat} (h : d < 2 ^ 31) : 4 ≤ nI d ↔ 4 ≤ d := nI_leI (a := 4) (by omega) h
theorem am_ge8 {d : Nat} (h : d < 2 ^ 31) : 8 ≤ nI d ↔ 8 ≤ d := nI_leI (a := 8) (by omega) h
theorem am_nn {x y : Int32} (h : x < 0) (hy : 0 ≤ y) : x < y := Int32.lt_of_lt_of_le h hy
def am_B (n : Nat) (a : Nat → Int32) : Prop := ∀ j, ∃ d, d ≤ n ∧ a j = nI d
theorem am_B_u {n k d : Nat} {a : Nat → Int32} (h : am_B n a) (hd : d ≤ n) : am_B n (upd a k (nI d)) := by
  intro j
  by_cases e : j = k
  · exact ⟨d, hd, by rw [e, pk_us]⟩
  · rw [pk_un e]
    exact h j
def am_Z (M : Nat) (a : Nat → Int32) : Prop := ∀ j, M ≤ j → a j = 0
theorem am_Z_u {M k : Nat} {x : Int32} {a : Nat → Int32} (h : am_Z M a) (hk : k < M) : am_Z M (upd a k x) := by
  intro j hj
  rw [pk_un (by omega)]
  exact h j hj
theorem am_Z_s {M : Nat} {a : Nat → Int32} (h : am_Z M a) : am_Z (M + 1) a := fun j hj => h j (by omega)
def am_F (fk fa : Nat → Int32) : Prop := ∀ j, fk j = 3 → ∃ r, r < 8 ∧ fa j = nI r
theorem am_F_u {fk fa : Nat → Int32} {i : Nat} {x y : Int32} (h : am_F fk fa) (hx : x = 3 → ∃ r, r < 8 ∧ y = nI r) : am_F (upd fk i x) (upd fa i y) := by
  intro j hj
  by_cases e : j = i
  · rw [e, pk_us] at hj
    rw [e, pk_us]
    exact hx hj
  · rw [pk_un e] at hj
    rw [pk_un e]
    exact h j hj
def am_E (st ex : Nat → Int32) : Prop := ∀ j, st j = 1 → ex j = 0
theorem am_E_u {st ex : Nat → Int32} {t : Nat} {x y : Int32} (h : am_E st ex) (hx : ¬ x = 1) : am_E (upd st t x) (upd ex t y) := by
  intro j hj
  by_cases e : j = t
  · rw [e, pk_us] at hj
    exact absurd hj hx
  · rw [pk_un e] at hj
    rw [pk_un e]
    exact h j hj
theorem am_E_s {st ex : Nat → Int32} {t : Nat} {x : Int32} (h : am_E st ex) (hx : ex t = 0) : am_E (upd st t x) ex := by
  intro j hj
  by_cases e : j = t
  · rw [e]
    exact hx
  · rw [pk_un e] at hj
    exact h j hj
def am_I (M : Nat) (st mk ex sd fd pn fk fa : Nat → Int32) : Prop := M ≤ 4 ∧ am_B 8 sd ∧ am_B 8 fd ∧ am_B 4 pn ∧ am_F fk fa ∧ am_E st ex ∧ am_Z M mk ∧ am_Z M ex ∧ am_Z M sd ∧ am_Z M fd ∧ am_Z M pn
section
variable {M t d : Nat} {st mk ex sd fd pn fk fa : Nat → Int32} {x y : Int32}
theorem am_I_mk (I : am_I M st mk ex sd fd pn fk fa) (ht : t < M) : am_I M st (upd mk t x) ex sd fd pn fk fa := by
  obtain ⟨h1, h2, h3, h4, h5, h6, h7, h8, h9, h10, h11⟩ := I
  exact ⟨h1, h2, h3, h4, h5, h6, am_Z_u h7 ht, h8, h9, h10, h11⟩
theorem am_I_sd (I : am_I M st mk ex sd fd pn fk fa) (ht : t < M) (hd : d ≤ 8) : am_I M st mk ex (upd sd t (nI d)) fd pn fk fa := by
  obtain ⟨h1, h2, h3, h4, h5, h6, h7, h8, h9, h10, h11⟩ := I
  exact ⟨h1, am_B_u h2 hd, h3, h4, h5, h6, h7, h8, am_Z_u h9 ht, h10, h11⟩
theorem am_I_fd (I : am_I M st mk ex sd fd pn fk fa) (ht : t < M) (hd : d ≤ 8) : am_I M st mk ex sd (upd fd t (nI d)) pn fk fa := by
  obtain ⟨h1, h2, h3, h4, h5, h6, h7, h8, h9, h10, h11⟩ := I
  exact ⟨h1, h2, am_B_u h3 hd, h4, h5, h6, h7, h8, h9, am_Z_u h10 ht, h11⟩
theorem am_I_pn (I : am_I M st mk ex sd fd pn fk fa) (ht : t < M) (hd : d ≤ 4) : am_I M st mk ex sd fd (upd pn t (nI d)) fk fa := by
  obtain ⟨h1, h2, h3, h4, h5, h6, h7, h8, h9, h10, h11⟩ := I
  exact ⟨h1, h2, h3, am_B_u h4 hd, h5, h6, h7, h8, h9, h10, am_Z_u h11 ht⟩
theorem am_I_se (I : am_I M st mk ex sd fd pn fk fa) (ht : t < M) (hx : ¬ x = 1) : am_I M (upd st t x) mk (upd ex t y) sd fd pn fk fa := by
  obtain ⟨h1, h2, h3, h4, h5, h6, h7, h8, h9, h10, h11⟩ := I
  exact ⟨h1, h2, h3, h4, h5, am_E_u h6 hx, h7, am_Z_u h8 ht, h9, h10, h11⟩
theorem am_I_fr {i : Nat} (I : am_I M st mk ex sd fd pn fk fa) (hx : x = 3 → ∃ r, r < 8 ∧ y = nI r) : am_I M st mk ex sd fd pn (upd fk i x) (upd fa i y) := by
  obtain ⟨h1, h2, h3, h4, h5, h6, h7, h8, h9, h10, h11⟩ := I
  exact ⟨h1, h2, h3, h4, am_F_u h5 hx, h6, h7, h8, h9, h10, h11⟩
theorem am_I_sp (I : am_I M st mk ex sd fd pn fk fa) (hM : M < 4) : am_I (M + 1) (upd st M 1) mk ex sd fd pn fk fa := by
  obtain ⟨h1, h2, h3, h4, h5, h6, h7, h8, h9, h10, h11⟩ := I
  exact ⟨by omega, h2, h3, h4, h5, am_E_s h6 (h8 M (Nat.le_refl M)), am_Z_s h7, am_Z_s h8, am_Z_s h9, am_Z_s h10, am_Z_s h11⟩
end
theorem am_nb {M : Nat} {x : Int32} (hM : M < 2 ^ 31) (h : nI M ≤ x) : ¬ x < 0 := fun z => absurd (Int32.lt_of_le_of_lt h z) (nI_pos hM)
def am_fr (fd fk fa : Nat → Int32) (u j r : Nat) : Prop := ∃ d, d ≤ 8 ∧ fd u = nI d ∧ j < d ∧ fk (u * 8 + j) = 3 ∧ fa (u * 8 + j) = nI r
def am_K1 (b M : Nat) (st fd fk fa ho aq rl : Nat → Int32) (r : Nat) : Prop := ∃ a, a ≤ b ∧ aq r = nI a ∧ ((ho r = -1 ∧ rl r = nI a ∧ ∀ u j, u < 4 → ¬ am_fr fd fk fa u j r) ∨ (∃ h i c, h < M ∧ ho r = nI h ∧ a = c + 1 ∧ rl r = nI c ∧ st h = 1 ∧ am_fr fd fk fa h i r ∧ ∀ u j, u < 4 → am_fr fd fk fa u j r → u = h ∧ j = i))
def am_K (b M : Nat) (st fd fk fa ho aq rl : Nat → Int32) : Prop := ∀ r, r < 8 → am_K1 b M st fd fk fa ho aq rl r
theorem am_K1_m {b b' M M' r : Nat} {st fd fk fa ho aq rl st' fd' fk' fa' ho' aq' rl' : Nat → Int32} (h : am_K1 b M st fd fk fa ho aq rl r) (h4 : M ≤ 4) (hb : b ≤ b') (hM : M ≤ M') (hs : ∀ u j, u < M → am_fr fd fk fa u j r → st u = 1 → st' u = 1) (hf : ∀ u j, u < 4 → (am_fr fd' fk' fa' u j r ↔ am_fr fd fk fa u j r)) (e1 : ho' r = ho r) (e2 : aq' r = aq r) (e3 : rl' r = rl r) : am_K1 b' M' st' fd' fk' fa' ho' aq' rl' r := by
  obtain ⟨a, ha, h1, h2⟩ := h
  refine ⟨a, by omega, e2.trans h1, ?_⟩
  rcases h2 with ⟨g1, g2, g3⟩ | ⟨h, i, c, g1, g2, g3, g4, g5, g6, g7⟩
  · exact Or.inl ⟨e1.trans g1, e3.trans g2, fun u j hu z => g3 u j hu ((hf u j hu).mp z)⟩
  · exact Or.inr ⟨h, i, c, by omega, e1.trans g2, g3, e3.trans g4, hs h i g1 g6 g5, (hf h i (by omega)).mpr g6, fun u j hu z => g7 u j hu ((hf u j hu).mp z)⟩
section
variable {b M t d : Nat} {st fd fk fa ho aq rl : Nat → Int32} {x k : Int32}
theorem am_K_s (K : am_K b M st fd fk fa ho aq rl) (h4 : M ≤ 4) : am_K (b + 1) M st fd fk fa ho aq rl := fun r hr => am_K1_m (K r hr) h4 (by omega) (by omega) (fun _ _ _ _ h => h) (fun _ _ _ => Iff.rfl) rfl rfl rfl
theorem am_K_st (K : am_K b M st fd fk fa ho aq rl) (h4 : M ≤ 4) (hf : fd t = nI 0) : am_K b M (upd st t x) fd fk fa ho aq rl := by
  intro r hr
  refine am_K1_m (K r hr) h4 (by omega) (by omega) (fun u j hu hf' h => ?_) (fun _ _ _ => Iff.rfl) rfl rfl rfl
  by_cases e : u = t
  · obtain ⟨d, h1, h2, h3, -⟩ := hf'
    rw [e, hf, nI_eq (by omega) (by omega)] at h2
    omega
  · rw [pk_un e]
    exact h
theorem am_K_sp (K : am_K b M st fd fk fa ho aq rl) (h4 : M ≤ 4) : am_K b (M + 1) (upd st M x) fd fk fa ho aq rl := by
  intro r hr
  refine am_K1_m (K r hr) h4 (by omega) (by omega) (fun u j hu hf' h => ?_) (fun _ _ _ => Iff.rfl) rfl rfl rfl
  rw [pk_un (by omega)]
  exact h
theorem am_fr_pop {u j r : Nat} (hd : d < 8) (hf : fd t = nI (d + 1)) : am_fr (upd fd t (nI d)) fk fa u j r ↔ (am_fr fd fk fa u j r ∧ ¬ (u = t ∧ j = d)) := by
  by_cases e : u = t
  · subst e
    constructor
    · rintro ⟨c, h1, h2, h3, h4, h5⟩
      rw [pk_us, nI_eq (by omega) (by omega)] at h2
      exact ⟨⟨d + 1, by omega, hf, by omega, h4, h5⟩, by omega⟩
    · rintro ⟨⟨c, h1, h2, h3, h4, h5⟩, h6⟩
      rw [hf, nI_eq (by omega) (by omega)] at h2
      exact ⟨d, by omega, pk_us, by omega, h4, h5⟩
  · constructor
    · rintro ⟨c, h1, h2, h3, h4, h5⟩
      rw [pk_un e] at h2
      exact ⟨⟨c, h1, h2, h3, h4, h5⟩, fun z => e z.1⟩
    · rintro ⟨⟨c, h1, h2, h3, h4, h5⟩, h6⟩
      exact ⟨c, h1, by rw [pk_un e]; exact h2, h3, h4, h5⟩
theorem am_fr_push {u j r : Nat} (ht : t < 4) (hu : u < 4) (hd : d < 8) (hf : fd t = nI d) : am_fr (upd fd t (nI (d + 1))) (upd fk (t * 8 + d) k) (upd fa (t * 8 + d) x) u j r ↔ (am_fr fd fk fa u j r ∨ (u = t ∧ j = d ∧ k = 3 ∧ x = nI r)) := by
  by_cases e : u = t
  · subst e
    constructor
    · rintro ⟨c, h1, h2, h3, h4, h5⟩
      rw [pk_us, nI_eq (by omega) (by omega)] at h2
      by_cases w : j = d
      · rw [w, pk_us] at h4 h5
        exact Or.inr ⟨rfl, w, h4, h5⟩
      · rw [pk_un (by omega)] at h4 h5
        exact Or.inl ⟨d, by omega, hf, by omega, h4, h5⟩
    · rintro (⟨c, h1, h2, h3, h4, h5⟩ | ⟨-, w, h4, h5⟩)
      · rw [hf, nI_eq (by omega) (by omega)] at h2
        exact ⟨d + 1, by omega, pk_us, by omega, by rw [pk_un (by omega)]; exact h4, by rw [pk_un (by omega)]; exact h5⟩
      · exact ⟨d + 1, by omega, pk_us, by omega, by rw [w, pk_us]; exact h4, by rw [w, pk_us]; exact h5⟩
  · constructor
    · rintro ⟨c, h1, h2, h3, h4, h5⟩
      rw [pk_un e] at h2
      rw [pk_un (by omega)] at h4 h5
      exact Or.inl ⟨c, h1, h2, h3, h4, h5⟩
    · rintro (⟨c, h1, h2, h3, h4, h5⟩ | ⟨w, -⟩)
      · exact ⟨c, h1, by rw [pk_un e]; exact h2, h3, by rw [pk_un (by omega)]; exact h4, by rw [pk_un (by omega)]; exact h5⟩
      · exact absurd w e
theorem am_K_pf (K : am_K b M st fd fk fa ho aq rl) (h4 : M ≤ 4) (ht : t < 4) (hd : d < 8) (hf : fd t = nI d) (hk : ¬ k = 3) : am_K b M st (upd fd t (nI (d + 1))) (upd fk (t * 8 + d) k) (upd fa (t * 8 + d) x) ho aq rl := by
  intro r hr
  refine am_K1_m (K r hr) h4 (by omega) (by omega) (fun _ _ _ _ h => h) (fun u j hu => ?_) rfl rfl rfl
  rw [am_fr_push ht hu hd hf]
  exact ⟨fun z => z.elim id (fun w => absurd w.2.2.1 hk), Or.inl⟩
theorem am_m1 {h : Nat} (hh : h < 2 ^ 31) : ¬ nI h = -1 := fun e => nI_pos hh (by rw [e]; decide)
theorem am_K_br {r : Nat} (K : am_K b M st fd fk fa ho aq rl) (h4 : M ≤ 4) (ht : t < M) (hd : d < 8) (hf : fd t = nI d) (hr : r < 8) (ho1 : ho r = -1) (hs : st t = 1) : am_K (b + 1) M st (upd fd t (nI (d + 1))) (upd fk (t * 8 + d) 3) (upd fa (t * 8 + d) (nI r)) (upd ho r (nI t)) (upd aq r (aq r + 1)) rl := by
  intro q hq
  by_cases e : q = r
  · subst e
    obtain ⟨a, h1, h2, h3⟩ := K q hq
    rcases h3 with ⟨g1, g2, g3⟩ | ⟨h, i, c, g1, g2, -⟩
    · refine ⟨a + 1, by omega, by rw [pk_us, h2, nI_1], Or.inr ⟨t, d, a, ht, pk_us, rfl, g2, hs, ?_, fun u j hu z => ?_⟩⟩
      · rw [am_fr_push (by omega) (by omega) hd hf]
        exact Or.inr ⟨rfl, rfl, rfl, rfl⟩
      · rw [am_fr_push (by omega) hu hd hf] at z
        rcases z with z | ⟨z1, z2, -⟩
        · exact absurd z (g3 u j hu)
        · exact ⟨z1, z2⟩
    · rw [ho1] at g2
      exact absurd g2.symm (am_m1 (by omega))
  · refine am_K1_m (K q hq) h4 (by omega) (by omega) (fun _ _ _ _ h => h) (fun u j hu => ?_) (pk_un e) (pk_un e) rfl
    rw [am_fr_push (by omega) hu hd hf]
    refine ⟨fun z => z.elim id (fun w => ?_), Or.inl⟩
    exact absurd ((nI_eq (by omega) (by omega)).mp w.2.2.2).symm e
def am_ho (fk fa ho : Nat → Int32) (i : Nat) : Nat → Int32 := if fk i = 3 then upd ho (fa i).toNatClampNeg (-1) else ho
def am_rl (fk fa rl : Nat → Int32) (i : Nat) : Nat → Int32 := if fk i = 3 then upd rl (fa i).toNatClampNeg (rl (fa i).toNatClampNeg + 1) else rl
theorem am_K_pop (K : am_K b M st fd fk fa ho aq rl) (hF : am_F fk fa) (h4 : M ≤ 4) (ht : t < 4) (hd : d < 8) (hf : fd t = nI (d + 1)) : am_K b M st (upd fd t (nI d)) fk fa (am_ho fk fa ho (t * 8 + d)) aq (am_rl fk fa rl (t * 8 + d)) := by
  intro r hr
  by_cases hb : fk (t * 8 + d) = 3 ∧ fa (t * 8 + d) = nI r
  · obtain ⟨b1, b2⟩ := hb
    have hfr : am_fr fd fk fa t d r := ⟨d + 1, by omega, hf, by omega, b1, b2⟩
    obtain ⟨a, h1, h2, h3⟩ := K r hr
    rcases h3 with ⟨g1, g2, g3⟩ | ⟨h, i, c, g1, g2, g3, g4, g5, g6, g7⟩
    · exact absurd hfr (g3 t d ht)
    · obtain ⟨q1, q2⟩ := g7 t d ht hfr
      refine ⟨a, h1, h2, Or.inl ⟨?_, ?_, fun u j hu z => ?_⟩⟩
      · simp (disch := omega) only [am_ho, b1, b2, if_true, nI_clamp, pk_us]
      · simp (disch := omega) only [am_rl, b1, b2, if_true, nI_clamp, pk_us, g4, g3, nI_1]
      · rw [am_fr_pop hd hf] at z
        obtain ⟨w1, w2⟩ := g7 u j hu z.1
        exact z.2 ⟨w1.trans q1.symm, w2.trans q2.symm⟩
  · have e : ∀ f : Nat → Int32, ∀ y : Int32, fk (t * 8 + d) = 3 → upd f (fa (t * 8 + d)).toNatClampNeg y r = f r := by
      intro f y h3
      obtain ⟨q, hq, hfa⟩ := hF _ h3
      rw [hfa, nI_clamp (by omega)]
      refine pk_un fun z => hb ⟨h3, ?_⟩
      rw [hfa, z]
    refine am_K1_m (K r hr) h4 (by omega) (by omega) (fun _ _ _ _ h => h) (fun u j hu => ?_) ?_ rfl ?_
    · rw [am_fr_pop hd hf]
      refine ⟨fun z => z.1, fun z => ⟨z, fun w => hb ?_⟩⟩
      obtain ⟨c, h1, h2, h3, h5, h6⟩ := z
      rw [w.1, w.2] at h5 h6
      exact ⟨h5, h6⟩
    · by_cases h3 : fk (t * 8 + d) = 3
      · rw [am_ho, if_pos h3]
        exact e _ _ h3
      · rw [am_ho, if_neg h3]
    · by_cases h3 : fk (t * 8 + d) = 3
      · rw [am_rl, if_pos h3]
        exact e _ _ h3
      · rw [am_rl, if_neg h3]
end
