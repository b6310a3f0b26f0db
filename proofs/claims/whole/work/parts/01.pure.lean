theorem pk_us {f : Nat → Int32} {k : Nat} {x : Int32} : upd f k x k = x := if_pos rfl
theorem pk_un {f : Nat → Int32} {k j : Nat} {x : Int32} (h : j ≠ k) : upd f k x j = f j := if_neg h
theorem pk_sub {a b : Nat} (h : b ≤ a) : nI a - nI b = nI (a - b) := by
  obtain ⟨c, rfl⟩ : ∃ c, a = c + b := ⟨a - b, by omega⟩
  rw [← nI_add, Int32.add_sub_cancel, Nat.add_sub_cancel]
theorem pk_m1 (n : Nat) : nI (n + 1) + (-1) = nI n := by
  rw [← nI_1, Int32.add_assoc, show (1 : Int32) + (-1) = 0 from rfl, Int32.add_zero]
theorem pk_mul (a b : Nat) : nI a * nI b = nI (a * b) := (Int32.ofNat_mul a b).symm
theorem pk_ix (x : Int32) {n : Nat} (hn : n < 2 ^ 31) : x < 0 ∨ nI n ≤ x ∨ ∃ j : Nat, j < n ∧ x = nI j := by
  by_cases h : x < 0
  · exact Or.inl h
  · obtain ⟨j, hj, rfl⟩ := nI_of h
    by_cases h2 : j < n
    · exact Or.inr (Or.inr ⟨j, h2, rfl⟩)
    · exact Or.inr (Or.inl (nI_le (by omega) hj))
theorem am_uu {f : Nat → Int32} {k : Nat} {x y : Int32} : upd (upd f k x) k y = upd f k y := by
  funext j
  by_cases h : j = k
  · simp only [upd, h, if_true]
  · simp only [upd, if_neg h]
theorem am_uk {f : Nat → Int32} {k : Nat} {x : Int32} (hx : f k = x) : upd f k x = f := by
  funext j
  by_cases h : j = k
  · rw [h, pk_us, hx]
  · exact pk_un h
theorem am_m8 (t : Nat) : nI t * 8 = nI (t * 8) := pk_mul t 8
theorem am_m4 (t : Nat) : nI t * 4 = nI (t * 4) := pk_mul t 4
theorem am_eq {d b : Nat} {y : Int32} (hy : y = nI b) (h : d < 2 ^ 31) (hb : b < 2 ^ 31) : nI d = y ↔ d = b := by
  rw [hy]
  exact nI_eq h hb
theorem am_eq0 {d : Nat} (h : d < 2 ^ 31) : nI d = 0 ↔ d = 0 := am_eq rfl h (by omega)
theorem am_eq1 {d : Nat} (h : d < 2 ^ 31) : nI d = 1 ↔ d = 1 := am_eq rfl h (by omega)
theorem am_eq2 {d : Nat} (h : d < 2 ^ 31) : nI d = 2 ↔ d = 2 := am_eq rfl h (by omega)
theorem am_eq3 {d : Nat} (h : d < 2 ^ 31) : nI d = 3 ↔ d = 3 := am_eq rfl h (by omega)
theorem am_eq4 {d : Nat} (h : d < 2 ^ 31) : nI d = 4 ↔ d = 4 := am_eq rfl h (by omega)
theorem am_eq8 {d : Nat} (h : d < 2 ^ 31) : nI d = 8 ↔ d = 8 := am_eq rfl h (by omega)
theorem am_lt0 {d : Nat} (h : d < 2 ^ 31) : ¬ nI d < 0 := nI_pos h
theorem am_lt1 {d : Nat} (h : d < 2 ^ 31) : nI d < 1 ↔ d < 1 := nI_ltI (b := 1) h (by omega)
theorem am_lt2 {d : Nat} (h : d < 2 ^ 31) : nI d < 2 ↔ d < 2 := nI_ltI (b := 2) h (by omega)
theorem am_lt4 {d : Nat} (h : d < 2 ^ 31) : nI d < 4 ↔ d < 4 := nI_ltI (b := 4) h (by omega)
theorem am_lt8 {d : Nat} (h : d < 2 ^ 31) : nI d < 8 ↔ d < 8 := nI_ltI (b := 8) h (by omega)
theorem am_le0 {d : Nat} (h : d < 2 ^ 31) : nI d ≤ 0 ↔ d ≤ 0 := nI_leI (b := 0) h (by omega)
theorem am_ge1 {d : Nat} (h : d < 2 ^ 31) : 1 ≤ nI d ↔ 1 ≤ d := nI_leI (a := 1) (by omega) h
theorem am_ge4 {d : Nat} (h : d < 2 ^ 31) : 4 ≤ nI d ↔ 4 ≤ d := nI_leI (a := 4) (by omega) h
theorem am_ge8 {d : Nat} (h : d < 2 ^ 31) : 8 ≤ nI d ↔ 8 ≤ d := nI_leI (a := 8) (by omega) h
theorem am_nn {x y : Int32} (h : x < 0) (hy : 0 ≤ y) : x < y := Int32.lt_of_lt_of_le h hy
def am_B (n : Nat) (a : Nat → Int32) : Prop := ∀ j, ∃ d, d ≤ n ∧ a j = nI d
theorem am_B_u {n k d : Nat} {a : Nat → Int32} (h : am_B n a) (hd : d ≤ n) : am_B n (upd a k (nI d)) := by
  intro j
  by_cases e : j = k
  · exact ⟨d, hd, by rw [e, pk_us]⟩
  · rw [pk_un e]
    exact h j
def am_Z (M : Nat) (a : Nat → Int32) : Prop := ∀ j, M ≤ j → a j = 0
theorem am_Z_u {M k : Nat} {x : Int32} {a : Nat → Int32} (h : am_Z M a) (hk : k < M) : am_Z M (upd a k x) := by
  intro j hj
  rw [pk_un (by omega)]
  exact h j hj
theorem am_Z_s {M : Nat} {a : Nat → Int32} (h : am_Z M a) : am_Z (M + 1) a := fun j hj => h j (by omega)
def am_F (fk fa : Nat → Int32) : Prop := ∀ j, fk j = 3 → ∃ r, r < 8 ∧ fa j = nI r
theorem am_F_u {fk fa : Nat → Int32} {i : Nat} {x y : Int32} (h : am_F fk fa) (hx : x = 3 → ∃ r, r < 8 ∧ y = nI r) : am_F (upd fk i x) (upd fa i y) := by
  intro j hj
  by_cases e : j = i
  · rw [e, pk_us] at hj
    rw [e, pk_us]
    exact hx hj
  · rw [pk_un e] at hj
    rw [pk_un e]
    exact h j hj
def am_E (st ex : Nat → Int32) : Prop := ∀ j, st j = 1 → ex j = 0
theorem am_E_u {st ex : Nat → Int32} {t : Nat} {x y : Int32} (h : am_E st ex) (hx : ¬ x = 1) : am_E (upd st t x) (upd ex t y) := by
  intro j hj
  by_cases e : j = t
  · rw [e, pk_us] at hj
    exact absurd hj hx
  · rw [pk_un e] at hj
    rw [pk_un e]
    exact h j hj
theorem am_E_s {st ex : Nat → Int32} {t : Nat} {x : Int32} (h : am_E st ex) (hx : ex t = 0) : am_E (upd st t x) ex := by
  intro j hj
  by_cases e : j = t
  · rw [e]
    exact hx
  · rw [pk_un e] at hj
    exact h j hj
def am_I (M : Nat) (st mk ex sd fd pn fk fa : Nat → Int32) : Prop := M ≤ 4 ∧ am_B 8 sd ∧ am_B 8 fd ∧ am_B 4 pn ∧ am_F fk fa ∧ am_E st ex ∧ am_Z M mk ∧ am_Z M ex ∧ am_Z M sd ∧ am_Z M fd ∧ am_Z M pn
section
variable {M t d : Nat} {st mk ex sd fd pn fk fa : Nat → Int32} {x y : Int32}
theorem am_I_mk (I : am_I M st mk ex sd fd pn fk fa) (ht : t < M) : am_I M st (upd mk t x) ex sd fd pn fk fa := by
  obtain ⟨h1, h2, h3, h4, h5, h6, h7, h8, h9, h10, h11⟩ := I
  exact ⟨h1, h2, h3, h4, h5, h6, am_Z_u h7 ht, h8, h9, h10, h11⟩
theorem am_I_sd (I : am_I M st mk ex sd fd pn fk fa) (ht : t < M) (hd : d ≤ 8) : am_I M st mk ex (upd sd t (nI d)) fd pn fk fa := by
  obtain ⟨h1, h2, h3, h4, h5, h6, h7, h8, h9, h10, h11⟩ := I
  exact ⟨h1, am_B_u h2 hd, h3, h4, h5, h6, h7, h8, am_Z_u h9 ht, h10, h11⟩
theorem am_I_fd (I : am_I M st mk ex sd fd pn fk fa) (ht : t < M) (hd : d ≤ 8) : am_I M st mk ex sd (upd fd t (nI d)) pn fk fa := by
  obtain ⟨h1, h2, h3, h4, h5, h6, h7, h8, h9, h10, h11⟩ := I
  exact ⟨h1, h2, am_B_u h3 hd, h4, h5, h6, h7, h8, h9, am_Z_u h10 ht, h11⟩
theorem am_I_pn (I : am_I M st mk ex sd fd pn fk fa) (ht : t < M) (hd : d ≤ 4) : am_I M st mk ex sd fd (upd pn t (nI d)) fk fa := by
  obtain ⟨h1, h2, h3, h4, h5, h6, h7, h8, h9, h10, h11⟩ := I
  exact ⟨h1, h2, h3, am_B_u h4 hd, h5, h6, h7, h8, h9, h10, am_Z_u h11 ht⟩
theorem am_I_se (I : am_I M st mk ex sd fd pn fk fa) (ht : t < M) (hx : ¬ x = 1) : am_I M (upd st t x) mk (upd ex t y) sd fd pn fk fa := by
  obtain ⟨h1, h2, h3, h4, h5, h6, h7, h8, h9, h10, h11⟩ := I
  exact ⟨h1, h2, h3, h4, h5, am_E_u h6 hx, h7, am_Z_u h8 ht, h9, h10, h11⟩
theorem am_I_fr {i : Nat} (I : am_I M st mk ex sd fd pn fk fa) (hx : x = 3 → ∃ r, r < 8 ∧ y = nI r) : am_I M st mk ex sd fd pn (upd fk i x) (upd fa i y) := by
  obtain ⟨h1, h2, h3, h4, h5, h6, h7, h8, h9, h10, h11⟩ := I
  exact ⟨h1, h2, h3, h4, am_F_u h5 hx, h6, h7, h8, h9, h10, h11⟩
theorem am_I_sp (I : am_I M st mk ex sd fd pn fk fa) (hM : M < 4) : am_I (M + 1) (upd st M 1) mk ex sd fd pn fk fa := by
  obtain ⟨h1, h2, h3, h4, h5, h6, h7, h8, h9, h10, h11⟩ := I
  exact ⟨by omega, h2, h3, h4, h5, am_E_s h6 (h8 M (Nat.le_refl M)), am_Z_s h7, am_Z_s h8, am_Z_s h9, am_Z_s h10, am_Z_s h11⟩
end
def am_P (pn pX pY : Nat → Int32) : Prop := ∀ t i d, t < 4 → d ≤ 4 → pn t = nI d → i < d → pX (t * 4 + i) = pY (t * 4 + i)
theorem am_P_z {pn pX pY : Nat → Int32} {t : Nat} (h : am_P pn pX pY) : am_P (upd pn t 0) pX pY := by
  intro s i d hs hd e hi
  by_cases q : s = t
  · rw [q, pk_us, ← nI_0, nI_eq (by omega) (by omega)] at e
    omega
  · rw [pk_un q] at e
    exact h s i d hs hd e hi
theorem am_P_app {pn pX pY : Nat → Int32} {t c : Nat} {e : Int32} (h : am_P pn pX pY) (ht : t < 4) (hc : c < 4) (hp : pn t = nI c) : am_P (upd pn t (nI (c + 1))) (upd pX (t * 4 + c) e) (upd pY (t * 4 + c) e) := by
  intro s i d hs hd e hi
  by_cases q : s = t
  · rw [q, pk_us, nI_eq (by omega) (by omega)] at e
    by_cases w : i = c
    · rw [q, w, pk_us, pk_us]
    · rw [q, pk_un (by omega), pk_un (by omega)]
      exact h t i c ht (by omega) hp (by omega)
  · rw [pk_un q] at e
    rw [pk_un (by omega), pk_un (by omega)]
    exact h s i d hs hd e hi
theorem am_P_rem {pn pX pY pX' pY' : Nat → Int32} {t c : Nat} (h : am_P pn pX pY) (ht : t < 4) (hc : c < 4) (hp : pn t = nI (c + 1)) (hX : ∀ i, i < c → pX' (t * 4 + i) = pX (t * 4 + (i + 1))) (hY : ∀ i, i < c → pY' (t * 4 + i) = pY (t * 4 + (i + 1))) (oX : ∀ j, (j < t * 4 ∨ t * 4 + 4 ≤ j) → pX' j = pX j) (oY : ∀ j, (j < t * 4 ∨ t * 4 + 4 ≤ j) → pY' j = pY j) : am_P (upd pn t (nI c)) pX' pY' := by
  intro s i d hs hd e hi
  by_cases q : s = t
  · rw [q, pk_us, nI_eq (by omega) (by omega)] at e
    rw [q, hX i (by omega), hY i (by omega)]
    exact h t (i + 1) (c + 1) ht (by omega) hp (by omega)
  · rw [pk_un q] at e
    rw [oX _ (by omega), oY _ (by omega)]
    exact h s i d hs hd e hi
theorem am_nb {M : Nat} {x : Int32} (hM : M < 2 ^ 31) (h : nI M ≤ x) : ¬ x < 0 := fun z => absurd (Int32.lt_of_le_of_lt h z) (nI_pos hM)
