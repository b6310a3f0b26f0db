section
theorem pk_us {f : Nat → Int32} {k : Nat} {x : Int32} : upd f k x k = x := if_pos rfl
theorem pk_un {f : Nat → Int32} {k j : Nat} {x : Int32} (h : j ≠ k) : upd f k x j = f j := if_neg h
theorem pk_sub {a b : Nat} (h : b ≤ a) : nI a - nI b = nI (a - b) := by
  obtain ⟨c, rfl⟩ : ∃ c, a = c + b := ⟨a - b, by omega⟩
  rw [← nI_add, Int32.add_sub_cancel, Nat.add_sub_cancel]
theorem pk_m1 (n : Nat) : nI (n + 1) + (-1) = nI n := by
  rw [← nI_1, Int32.add_assoc, show (1 : Int32) + (-1) = 0 from rfl, Int32.add_zero]
theorem pk_mul (a b : Nat) : nI a * nI b = nI (a * b) := (Int32.ofNat_mul a b).symm
theorem pk_ix (x : Int32) {n : Nat} (hn : n < 2 ^ 31) : x < 0 ∨ nI n ≤ x ∨ ∃ j : Nat, j < n ∧ x = nI j := by
  by_cases h : x < 0
  · exact Or.inl h
  · obtain ⟨j, hj, rfl⟩ := nI_of h
    by_cases h2 : j < n
    · exact Or.inr (Or.inr ⟨j, h2, rfl⟩)
    · exact Or.inr (Or.inl (nI_le (by omega) hj))
theorem am_uu {f : Nat → Int32} {k : Nat} {x y : Int32} : upd (upd f k x) k y = upd f k y := by
  funext j
  by_cases h : j = k
  · simp only [upd, h, if_true]
  · simp only [upd, if_neg h]
theorem am_uk {f : Nat → Int32} {k : Nat} {x : Int32} (hx : f k = x) : upd f k x = f := by
  funext j
  by_cases h : j = k
  · rw [h, pk_us, hx]
  · exact pk_un h
theorem am_m8 (t : Nat) : nI t * 8 = nI (t * 8) := pk_mul t 8
theorem am_m4 (t : Nat) : nI t * 4 = nI (t * 4) := pk_mul t 4
theorem am_eq {d b : Nat} {y : Int32} (hy : y = nI b) (h : d < 2 ^ 31) (hb : b < 2 ^ 31) : nI d = y ↔ d = b := by
  rw [hy]
  exact nI_eq h hb
theorem am_eq0 {d : Nat} (h : d < 2 ^ 31) : nI d = 0 ↔ d = 0 := am_eq rfl h (by omega)
theorem am_eq1 {d : Nat} (h : d < 2 ^ 31) : nI d = 1 ↔ d = 1 := am_eq rfl h (by omega)
theorem am_eq2 {d : Nat} (h : d < 2 ^ 31) : nI d = 2 ↔ d = 2 := am_eq rfl h (by omega)
theorem am_eq3 {d : Nat} (h : d < 2 ^ 31) : nI d = 3 ↔ d = 3 := am_eq rfl h (by omega)
theorem am_eq4 {d : Nat} (h : d < 2 ^ 31) : nI d = 4 ↔ d = 4 := am_eq rfl h (by omega)
theorem am_eq8 {d : Nat} (h : d < 2 ^ 31) : nI d = 8 ↔ d = 8 := am_eq rfl h (by omega)
theorem am_lt0 {d : Nat} (h : d < 2 ^ 31) : ¬ nI d < 0 := nI_pos h
theorem am_lt1 {d : Nat} (h : d < 2 ^ 31) : nI d < 1 ↔ d < 1 := nI_ltI (b := 1) h (by omega)
theorem am_lt2 {d : Nat} (h : d < 2 ^ 31) : nI d < 2 ↔ d < 2 := nI_ltI (b := 2) h (by omega)
theorem am_lt4 {d : Nat} (h : d < 2 ^ 31) : nI d < 4 ↔ d < 4 := nI_ltI (b := 4) h (by omega)
theorem am_lt8 {d : Nat} (h : d < 2 ^ 31) : nI d < 8 ↔ d < 8 := nI_ltI (b := 8) h (by omega)
theorem am_le0 {d : Nat} (h : d < 2 ^ 31) : nI d ≤ 0 ↔ d ≤ 0 := nI_leI (b := 0) h (by omega)
theorem am_ge1 {d : Nat} (h : d < 2 ^ 31) : 1 ≤ nI d ↔ 1 ≤ d := nI_leI (a := 1) (by omega) h
theorem am_ge4 {d : Nat} (h : d < 2 ^ 31) : 4 ≤ nI d ↔ 4 ≤ d := nI_leI (a := 4) (by omega) h
theorem am_ge8 {d : Nat} (h : d < 2 ^ 31) : 8 ≤ nI d ↔ 8 ≤ d := nI_leI (a := 8) (by omega) h
theorem am_nn {x y : Int32} (h : x < 0) (hy : 0 ≤ y) : x < y := Int32.lt_of_lt_of_le h hy
def am_B (n : Nat) (a : Nat → Int32) : Prop := ∀ j, ∃ d, d ≤ n ∧ a j = nI d
theorem am_B_u {n k d : Nat} {a : Nat → Int32} (h : am_B n a) (hd : d ≤ n) : am_B n (upd a k (nI d)) := by
  intro j
  by_cases e : j = k
  · exact ⟨d, hd, by rw [e, pk_us]⟩
  · rw [pk_un e]
    exact h j
def am_Z (M : Nat) (a : Nat → Int32) : Prop := ∀ j, M ≤ j → a j = 0
theorem am_Z_u {M k : Nat} {x : Int32} {a : Nat → Int32} (h : am_Z M a) (hk : k < M) : am_Z M (upd a k x) := by
  intro j hj
  rw [pk_un (by omega)]
  exact h j hj
theorem am_Z_s {M : Nat} {a : Nat → Int32} (h : am_Z M a) : am_Z (M + 1) a := fun j hj => h j (by omega)
def am_F (fk fa : Nat → Int32) : Prop := ∀ j, fk j = 3 → ∃ r, r < 8 ∧ fa j = nI r
theorem am_F_u {fk fa : Nat → Int32} {i : Nat} {x y : Int32} (h : am_F fk fa) (hx : x = 3 → ∃ r, r < 8 ∧ y = nI r) : am_F (upd fk i x) (upd fa i y) := by
  intro j hj
  by_cases e : j = i
  · rw [e, pk_us] at hj
    rw [e, pk_us]
    exact hx hj
  · rw [pk_un e] at hj
    rw [pk_un e]
    exact h j hj
def am_E (st ex : Nat → Int32) : Prop := ∀ j, st j = 1 → ex j = 0
theorem am_E_u {st ex : Nat → Int32} {t : Nat} {x y : Int32} (h : am_E st ex) (hx : ¬ x = 1) : am_E (upd st t x) (upd ex t y) := by
  intro j hj
  by_cases e : j = t
  · rw [e, pk_us] at hj
    exact absurd hj hx
  · rw [pk_un e] at hj
    rw [pk_un e]
    exact h j hj
theorem am_E_s {st ex : Nat → Int32} {t : Nat} {x : Int32} (h : am_E st ex) (hx : ex t = 0) : am_E (upd st t x) ex := by
  intro j hj
  by_cases e : j = t
  · rw [e]
    exact hx
  · rw [pk_un e] at hj
    exact h j hj
def am_I (M : Nat) (st mk ex sd fd pn fk fa : Nat → Int32) : Prop := M ≤ 4 ∧ am_B 8 sd ∧ am_B 8 fd ∧ am_B 4 pn ∧ am_F fk fa ∧ am_E st ex ∧ am_Z M mk ∧ am_Z M ex ∧ am_Z M sd ∧ am_Z M fd ∧ am_Z M pn
section
variable {M t d : Nat} {st mk ex sd fd pn fk fa : Nat → Int32} {x y : Int32}
theorem am_I_mk (I : am_I M st mk ex sd fd pn fk fa) (ht : t < M) : am_I M st (upd mk t x) ex sd fd pn fk fa := by
  obtain ⟨h1, h2, h3, h4, h5, h6, h7, h8, h9, h10, h11⟩ := I
  exact ⟨h1, h2, h3, h4, h5, h6, am_Z_u h7 ht, h8, h9, h10, h11⟩
theorem am_I_sd (I : am_I M st mk ex sd fd pn fk fa) (ht : t < M) (hd : d ≤ 8) : am_I M st mk ex (upd sd t (nI d)) fd pn fk fa := by
  obtain ⟨h1, h2, h3, h4, h5, h6, h7, h8, h9, h10, h11⟩ := I
  exact ⟨h1, am_B_u h2 hd, h3, h4, h5, h6, h7, h8, am_Z_u h9 ht, h10, h11⟩
theorem am_I_fd (I : am_I M st mk ex sd fd pn fk fa) (ht : t < M) (hd : d ≤ 8) : am_I M st mk ex sd (upd fd t (nI d)) pn fk fa := by
  obtain ⟨h1, h2, h3, h4, h5, h6, h7, h8, h9, h10, h11⟩ := I
  exact ⟨h1, h2, am_B_u h3 hd, h4, h5, h6, h7, h8, h9, am_Z_u h10 ht, h11⟩
theorem am_I_pn (I : am_I M st mk ex sd fd pn fk fa) (ht : t < M) (hd : d ≤ 4) : am_I M st mk ex sd fd (upd pn t (nI d)) fk fa := by
  obtain ⟨h1, h2, h3, h4, h5, h6, h7, h8, h9, h10, h11⟩ := I
  exact ⟨h1, h2, h3, am_B_u h4 hd, h5, h6, h7, h8, h9, h10, am_Z_u h11 ht⟩
theorem am_I_se (I : am_I M st mk ex sd fd pn fk fa) (ht : t < M) (hx : ¬ x = 1) : am_I M (upd st t x) mk (upd ex t y) sd fd pn fk fa := by
  obtain ⟨h1, h2, h3, h4, h5, h6, h7, h8, h9, h10, h11⟩ := I
  exact ⟨h1, h2, h3, h4, h5, am_E_u h6 hx, h7, am_Z_u h8 ht, h9, h10, h11⟩
theorem am_I_fr {i : Nat} (I : am_I M st mk ex sd fd pn fk fa) (hx : x = 3 → ∃ r, r < 8 ∧ y = nI r) : am_I M st mk ex sd fd pn (upd fk i x) (upd fa i y) := by
  obtain ⟨h1, h2, h3, h4, h5, h6, h7, h8, h9, h10, h11⟩ := I
  exact ⟨h1, h2, h3, h4, am_F_u h5 hx, h6, h7, h8, h9, h10, h11⟩
theorem am_I_sp (I : am_I M st mk ex sd fd pn fk fa) (hM : M < 4) : am_I (M + 1) (upd st M 1) mk ex sd fd pn fk fa := by
  obtain ⟨h1, h2, h3, h4, h5, h6, h7, h8, h9, h10, h11⟩ := I
  exact ⟨by omega, h2, h3, h4, h5, am_E_s h6 (h8 M (Nat.le_refl M)), am_Z_s h7, am_Z_s h8, am_Z_s h9, am_Z_s h10, am_Z_s h11⟩
end
def am_P (pn pX pY : Nat → Int32) : Prop := ∀ t i d, t < 4 → d ≤ 4 → pn t = nI d → i < d → pX (t * 4 + i) = pY (t * 4 + i)
theorem am_P_z {pn pX pY : Nat → Int32} {t : Nat} (h : am_P pn pX pY) : am_P (upd pn t 0) pX pY := by
  intro s i d hs hd e hi
  by_cases q : s = t
  · rw [q, pk_us, ← nI_0, nI_eq (by omega) (by omega)] at e
    omega
  · rw [pk_un q] at e
    exact h s i d hs hd e hi
theorem am_P_app {pn pX pY : Nat → Int32} {t c : Nat} {e : Int32} (h : am_P pn pX pY) (ht : t < 4) (hc : c < 4) (hp : pn t = nI c) : am_P (upd pn t (nI (c + 1))) (upd pX (t * 4 + c) e) (upd pY (t * 4 + c) e) := by
  intro s i d hs hd e hi
  by_cases q : s = t
  · rw [q, pk_us, nI_eq (by omega) (by omega)] at e
    by_cases w : i = c
    · rw [q, w, pk_us, pk_us]
    · rw [q, pk_un (by omega), pk_un (by omega)]
      exact h t i c ht (by omega) hp (by omega)
  · rw [pk_un q] at e
    rw [pk_un (by omega), pk_un (by omega)]
    exact h s i d hs hd e hi
theorem am_P_rem {pn pX pY pX' pY' : Nat → Int32} {t c : Nat} (h : am_P pn pX pY) (ht : t < 4) (hc : c < 4) (hp : pn t = nI (c + 1)) (hX : ∀ i, i < c → pX' (t * 4 + i) = pX (t * 4 + (i + 1))) (hY : ∀ i, i < c → pY' (t * 4 + i) = pY (t * 4 + (i + 1))) (oX : ∀ j, (j < t * 4 ∨ t * 4 + 4 ≤ j) → pX' j = pX j) (oY : ∀ j, (j < t * 4 ∨ t * 4 + 4 ≤ j) → pY' j = pY j) : am_P (upd pn t (nI c)) pX' pY' := by
  intro s i d hs hd e hi
  by_cases q : s = t
  · rw [q, pk_us, nI_eq (by omega) (by omega)] at e
    rw [q, hX i (by omega), hY i (by omega)]
    exact h t (i + 1) (c + 1) ht (by omega) hp (by omega)
  · rw [pk_un q] at e
    rw [oX _ (by omega), oY _ (by omega)]
    exact h s i d hs hd e hi
theorem am_nb {M : Nat} {x : Int32} (hM : M < 2 ^ 31) (h : nI M ≤ x) : ¬ x < 0 := fun z => absurd (Int32.lt_of_le_of_lt h z) (nI_pos hM)
end
section
theorem am_ne_1_0 : ¬ (1 : Int32) = 0 := by decide
theorem am_ne_2_0 : ¬ (2 : Int32) = 0 := by decide
theorem am_ne_2_1 : ¬ (2 : Int32) = 1 := by decide
theorem am_ne_3_0 : ¬ (3 : Int32) = 0 := by decide
theorem am_ne_3_1 : ¬ (3 : Int32) = 1 := by decide
theorem am_ne_3_2 : ¬ (3 : Int32) = 2 := by decide
theorem am_ne_4_0 : ¬ (4 : Int32) = 0 := by decide
theorem am_ne_4_1 : ¬ (4 : Int32) = 1 := by decide
theorem am_ne_4_2 : ¬ (4 : Int32) = 2 := by decide
theorem am_ne_4_3 : ¬ (4 : Int32) = 3 := by decide
theorem am_ne_5_0 : ¬ (5 : Int32) = 0 := by decide
theorem am_ne_5_1 : ¬ (5 : Int32) = 1 := by decide
theorem am_ne_5_2 : ¬ (5 : Int32) = 2 := by decide
theorem am_ne_5_3 : ¬ (5 : Int32) = 3 := by decide
theorem am_ne_5_4 : ¬ (5 : Int32) = 4 := by decide
theorem am_ne_6_0 : ¬ (6 : Int32) = 0 := by decide
theorem am_ne_6_1 : ¬ (6 : Int32) = 1 := by decide
theorem am_ne_6_2 : ¬ (6 : Int32) = 2 := by decide
theorem am_ne_6_3 : ¬ (6 : Int32) = 3 := by decide
theorem am_ne_6_4 : ¬ (6 : Int32) = 4 := by decide
theorem am_ne_6_5 : ¬ (6 : Int32) = 5 := by decide
theorem am_ne_7_0 : ¬ (7 : Int32) = 0 := by decide
theorem am_ne_7_1 : ¬ (7 : Int32) = 1 := by decide
theorem am_ne_7_2 : ¬ (7 : Int32) = 2 := by decide
theorem am_ne_7_3 : ¬ (7 : Int32) = 3 := by decide
theorem am_ne_7_4 : ¬ (7 : Int32) = 4 := by decide
theorem am_ne_7_5 : ¬ (7 : Int32) = 5 := by decide
theorem am_ne_7_6 : ¬ (7 : Int32) = 6 := by decide
theorem am_ne_8_0 : ¬ (8 : Int32) = 0 := by decide
theorem am_ne_8_1 : ¬ (8 : Int32) = 1 := by decide
theorem am_ne_8_2 : ¬ (8 : Int32) = 2 := by decide
theorem am_ne_8_3 : ¬ (8 : Int32) = 3 := by decide
theorem am_ne_8_4 : ¬ (8 : Int32) = 4 := by decide
theorem am_ne_8_5 : ¬ (8 : Int32) = 5 := by decide
theorem am_ne_8_6 : ¬ (8 : Int32) = 6 := by decide
theorem am_ne_8_7 : ¬ (8 : Int32) = 7 := by decide
theorem am_ne_9_0 : ¬ (9 : Int32) = 0 := by decide
theorem am_ne_9_1 : ¬ (9 : Int32) = 1 := by decide
theorem am_ne_9_2 : ¬ (9 : Int32) = 2 := by decide
theorem am_ne_9_3 : ¬ (9 : Int32) = 3 := by decide
theorem am_ne_9_4 : ¬ (9 : Int32) = 4 := by decide
theorem am_ne_9_5 : ¬ (9 : Int32) = 5 := by decide
theorem am_ne_9_6 : ¬ (9 : Int32) = 6 := by decide
theorem am_ne_9_7 : ¬ (9 : Int32) = 7 := by decide
theorem am_ne_9_8 : ¬ (9 : Int32) = 8 := by decide
theorem am_ne_10_0 : ¬ (10 : Int32) = 0 := by decide
theorem am_ne_10_1 : ¬ (10 : Int32) = 1 := by decide
theorem am_ne_10_2 : ¬ (10 : Int32) = 2 := by decide
theorem am_ne_10_3 : ¬ (10 : Int32) = 3 := by decide
theorem am_ne_10_4 : ¬ (10 : Int32) = 4 := by decide
theorem am_ne_10_5 : ¬ (10 : Int32) = 5 := by decide
theorem am_ne_10_6 : ¬ (10 : Int32) = 6 := by decide
theorem am_ne_10_7 : ¬ (10 : Int32) = 7 := by decide
theorem am_ne_10_8 : ¬ (10 : Int32) = 8 := by decide
theorem am_ne_10_9 : ¬ (10 : Int32) = 9 := by decide
theorem am_ne_11_0 : ¬ (11 : Int32) = 0 := by decide
theorem am_ne_11_1 : ¬ (11 : Int32) = 1 := by decide
theorem am_ne_11_2 : ¬ (11 : Int32) = 2 := by decide
theorem am_ne_11_3 : ¬ (11 : Int32) = 3 := by decide
theorem am_ne_11_4 : ¬ (11 : Int32) = 4 := by decide
theorem am_ne_11_5 : ¬ (11 : Int32) = 5 := by decide
theorem am_ne_11_6 : ¬ (11 : Int32) = 6 := by decide
theorem am_ne_11_7 : ¬ (11 : Int32) = 7 := by decide
theorem am_ne_11_8 : ¬ (11 : Int32) = 8 := by decide
theorem am_ne_11_9 : ¬ (11 : Int32) = 9 := by decide
theorem am_ne_11_10 : ¬ (11 : Int32) = 10 := by decide
theorem am_ne_12_0 : ¬ (12 : Int32) = 0 := by decide
theorem am_ne_12_1 : ¬ (12 : Int32) = 1 := by decide
theorem am_ne_12_2 : ¬ (12 : Int32) = 2 := by decide
theorem am_ne_12_3 : ¬ (12 : Int32) = 3 := by decide
theorem am_ne_12_4 : ¬ (12 : Int32) = 4 := by decide
theorem am_ne_12_5 : ¬ (12 : Int32) = 5 := by decide
theorem am_ne_12_6 : ¬ (12 : Int32) = 6 := by decide
theorem am_ne_12_7 : ¬ (12 : Int32) = 7 := by decide
theorem am_ne_12_8 : ¬ (12 : Int32) = 8 := by decide
theorem am_ne_12_9 : ¬ (12 : Int32) = 9 := by decide
theorem am_ne_12_10 : ¬ (12 : Int32) = 10 := by decide
theorem am_ne_12_11 : ¬ (12 : Int32) = 11 := by decide
theorem am_ne_13_0 : ¬ (13 : Int32) = 0 := by decide
theorem am_ne_13_1 : ¬ (13 : Int32) = 1 := by decide
theorem am_ne_13_2 : ¬ (13 : Int32) = 2 := by decide
theorem am_ne_13_3 : ¬ (13 : Int32) = 3 := by decide
theorem am_ne_13_4 : ¬ (13 : Int32) = 4 := by decide
theorem am_ne_13_5 : ¬ (13 : Int32) = 5 := by decide
theorem am_ne_13_6 : ¬ (13 : Int32) = 6 := by decide
theorem am_ne_13_7 : ¬ (13 : Int32) = 7 := by decide
theorem am_ne_13_8 : ¬ (13 : Int32) = 8 := by decide
theorem am_ne_13_9 : ¬ (13 : Int32) = 9 := by decide
theorem am_ne_13_10 : ¬ (13 : Int32) = 10 := by decide
theorem am_ne_13_11 : ¬ (13 : Int32) = 11 := by decide
theorem am_ne_13_12 : ¬ (13 : Int32) = 12 := by decide
theorem am_ne_14_0 : ¬ (14 : Int32) = 0 := by decide
theorem am_ne_14_1 : ¬ (14 : Int32) = 1 := by decide
theorem am_ne_14_2 : ¬ (14 : Int32) = 2 := by decide
theorem am_ne_14_3 : ¬ (14 : Int32) = 3 := by decide
theorem am_ne_14_4 : ¬ (14 : Int32) = 4 := by decide
theorem am_ne_14_5 : ¬ (14 : Int32) = 5 := by decide
theorem am_ne_14_6 : ¬ (14 : Int32) = 6 := by decide
theorem am_ne_14_7 : ¬ (14 : Int32) = 7 := by decide
theorem am_ne_14_8 : ¬ (14 : Int32) = 8 := by decide
theorem am_ne_14_9 : ¬ (14 : Int32) = 9 := by decide
theorem am_ne_14_10 : ¬ (14 : Int32) = 10 := by decide
theorem am_ne_14_11 : ¬ (14 : Int32) = 11 := by decide
theorem am_ne_14_12 : ¬ (14 : Int32) = 12 := by decide
theorem am_ne_14_13 : ¬ (14 : Int32) = 13 := by decide
theorem am_ne_15_0 : ¬ (15 : Int32) = 0 := by decide
theorem am_ne_15_1 : ¬ (15 : Int32) = 1 := by decide
theorem am_ne_15_2 : ¬ (15 : Int32) = 2 := by decide
theorem am_ne_15_3 : ¬ (15 : Int32) = 3 := by decide
theorem am_ne_15_4 : ¬ (15 : Int32) = 4 := by decide
theorem am_ne_15_5 : ¬ (15 : Int32) = 5 := by decide
theorem am_ne_15_6 : ¬ (15 : Int32) = 6 := by decide
theorem am_ne_15_7 : ¬ (15 : Int32) = 7 := by decide
theorem am_ne_15_8 : ¬ (15 : Int32) = 8 := by decide
theorem am_ne_15_9 : ¬ (15 : Int32) = 9 := by decide
theorem am_ne_15_10 : ¬ (15 : Int32) = 10 := by decide
theorem am_ne_15_11 : ¬ (15 : Int32) = 11 := by decide
theorem am_ne_15_12 : ¬ (15 : Int32) = 12 := by decide
theorem am_ne_15_13 : ¬ (15 : Int32) = 13 := by decide
theorem am_ne_15_14 : ¬ (15 : Int32) = 14 := by decide
theorem am_ip (a d : Nat) : nI (a + (d + 1)) - 1 = nI (a + d) := nI_pred (a + d)
def am_Out (C Z N M : Nat) (co ca : Nat → Int32) (WX : (SX → Prop) → Prop) (WY : (SY → Prop) → Prop) : Prop := ∃ st pc mk ex sd fd pn sk fk fa fs pX pY ho aq rl : Nat → Int32, am_I M st mk ex sd fd pn fk fa ∧ am_P pn pX pY ∧ (∀ post : SX → Prop, post (nI C, nI Z, nI N, nI M, co, ca, st, pc, mk, ex, sd, fd, pn, sk, fk, fa, fs, pX, ho, aq, rl) → WX post) ∧ (∀ post : SY → Prop, post (nI C, nI Z, nI N, nI M, co, ca, st, pc, mk, ex, sd, fd, pn, sk, fk, fa, fs, pY, ho, aq, rl) → WY post)
def am_ho (fk fa ho : Nat → Int32) (i : Nat) : Nat → Int32 := if fk i = 3 then upd ho (fa i).toNatClampNeg (-1) else ho
def am_rl (fk fa rl : Nat → Int32) (i : Nat) : Nat → Int32 := if fk i = 3 then upd rl (fa i).toNatClampNeg (rl (fa i).toNatClampNeg + 1) else rl
section
variable {C Z N M t p d : Nat} {co ca st pc mk ex sd fd pn sk fk fa fs pd pX pY ho aq rl : Nat → Int32}
theorem am_X_pop (hF : am_F fk fa) (ht : t < 4) (hd : d < 8) (hf : fd t = nI (d + 1)) {post : Int32 → SX → Prop} (h : post (nI (t * 8 + d)) (nI C, nI Z, nI N, nI M, co, ca, st, pc, (upd mk t (fs (t * 8 + d))), ex, sd, (upd fd t (nI d)), pn, sk, fk, fa, fs, pd, (am_ho fk fa ho (t * 8 + d)), aq, (am_rl fk fa rl (t * 8 + d)))) : wpX_popFrame post (nI C, nI Z, nI N, nI M, co, ca, st, pc, mk, ex, sd, fd, pn, sk, fk, fa, fs, pd, ho, aq, rl) (nI t) := by
  by_cases hk : fk (t * 8 + d) = 3
  · obtain ⟨r, hr, hfa⟩ := hF _ hk
    simp (disch := omega) only [am_ho, am_rl, hk, hfa, if_true, nI_clamp, pk_us, am_uu, nI_1, nI_pred, am_ip, nI_add, am_m8, am_m4, vp_in_nI, true_and, and_true, forall_eq, true_implies, false_implies, not_true_eq_false, not_false_eq_true, am_ne_1_0, Int32.reduceLT, Int32.reduceLE] at h
    simp (disch := omega) only [wpX_popFrame, hf, hk, hfa, nI_clamp, pk_us, am_uu, nI_1, nI_pred, am_ip, nI_add, am_m8, am_m4, vp_in_nI, true_and, and_true, forall_eq, true_implies, false_implies, not_true_eq_false, not_false_eq_true, am_ne_1_0, Int32.reduceLT, Int32.reduceLE]
    exact h
  · simp only [am_ho, am_rl, hk, if_false] at h
    simp (disch := omega) only [wpX_popFrame, hf, hk, nI_clamp, pk_us, am_uu, nI_1, nI_pred, am_ip, nI_add, am_m8, am_m4, vp_in_nI, true_and, and_true, forall_eq, true_implies, false_implies, not_true_eq_false, not_false_eq_true, am_ne_1_0, Int32.reduceLT, Int32.reduceLE]
    exact h
theorem am_Y_pop (hF : am_F fk fa) (ht : t < 4) (hd : d < 8) (hf : fd t = nI (d + 1)) {post : Int32 → SY → Prop} (h : post (nI (t * 8 + d)) (nI C, nI Z, nI N, nI M, co, ca, st, pc, (upd mk t (fs (t * 8 + d))), ex, sd, (upd fd t (nI d)), pn, sk, fk, fa, fs, pd, (am_ho fk fa ho (t * 8 + d)), aq, (am_rl fk fa rl (t * 8 + d)))) : wpY_popFrame post (nI C, nI Z, nI N, nI M, co, ca, st, pc, mk, ex, sd, fd, pn, sk, fk, fa, fs, pd, ho, aq, rl) (nI t) := by
  by_cases hk : fk (t * 8 + d) = 3
  · obtain ⟨r, hr, hfa⟩ := hF _ hk
    simp (disch := omega) only [am_ho, am_rl, hk, hfa, if_true, nI_clamp, pk_us, am_uu, nI_1, nI_pred, am_ip, nI_add, am_m8, am_m4, vp_in_nI, true_and, and_true, forall_eq, true_implies, false_implies, not_true_eq_false, not_false_eq_true, am_ne_1_0, Int32.reduceLT, Int32.reduceLE] at h
    have e1 : ¬ nI r < 0 := nI_pos (by omega)
    have e2 : ¬ 8 ≤ nI r := nI_ge (b := 8) hr (by omega)
    simp (disch := omega) only [wpY_popFrame, wpY_release, hf, hk, hfa, e1, e2, nI_clamp, pk_us, am_uu, nI_1, nI_pred, am_ip, nI_add, am_m8, am_m4, vp_in_nI, true_and, and_true, forall_eq, true_implies, false_implies, not_true_eq_false, not_false_eq_true, am_ne_1_0, Int32.reduceLT, Int32.reduceLE]
    exact h
  · simp only [am_ho, am_rl, hk, if_false] at h
    simp (disch := omega) only [wpY_popFrame, hf, hk, nI_clamp, pk_us, am_uu, nI_1, nI_pred, am_ip, nI_add, am_m8, am_m4, vp_in_nI, true_and, and_true, forall_eq, true_implies, false_implies, not_true_eq_false, not_false_eq_true, am_ne_1_0, Int32.reduceLT, Int32.reduceLE]
    exact h
end
end
section
section
variable {C Z N M t p d : Nat} {co ca st pc mk ex sd fd pn sk fk fa fs pd pX pY ho aq rl : Nat → Int32}
theorem am_X_fin {x e : Int32} (ht : t < 4) {post : SX → Prop} (h : post (nI C, nI Z, nI N, nI M, co, ca, (upd st t x), pc, mk, (upd ex t e), (upd sd t 0), fd, (upd pn t 0), sk, fk, fa, fs, pd, ho, aq, rl)) : wpX_finish post (nI C, nI Z, nI N, nI M, co, ca, st, pc, mk, ex, sd, fd, pn, sk, fk, fa, fs, pd, ho, aq, rl) (nI t) x e := by
  simp (disch := omega) only [wpX_finish, nI_clamp, pk_us, am_uu, nI_1, nI_pred, am_ip, nI_add, am_m8, am_m4, vp_in_nI, true_and, and_true, forall_eq, true_implies, false_implies, not_true_eq_false, not_false_eq_true, am_ne_1_0, Int32.reduceLT, Int32.reduceLE]
  exact h
theorem am_ra {e : Int32} (ht : t < M) (P : am_P pn pX pY) : ∀ (d : Nat) (mk fd ho rl : Nat → Int32), d ≤ 8 → fd t = nI d → am_I M st mk ex sd fd pn fk fa → am_Out C Z N M co ca (fun post => ∀ f, d < f → wX_raise_7 post (nI t) e f (nI d) (nI C) (nI Z) (nI N) (nI M) co ca st pc mk ex sd fd pn sk fk fa fs pX ho aq rl) (fun post => ∀ n f, n + d ≤ 8 → d < f → wY_raise_2 post (nI t) e f (nI n) (nI C) (nI Z) (nI N) (nI M) co ca st pc mk ex sd fd pn sk fk fa fs pY ho aq rl) := by
  intro d
  induction d with
  | zero =>
    intro mk fd ho rl hd hf I
    have hM := I.1
    refine ⟨(upd st t 3), pc, mk, (upd ex t e), (upd sd t 0), fd, (upd pn t 0), sk, fk, fa, fs, pX, pY, ho, aq, rl, ?_, am_P_z P, fun post h f hf' => ?_, fun post h n f hn hf' => ?_⟩
    · exact am_I_pn (d := 0) (am_I_sd (d := 0) (am_I_se I ht (by decide)) ht (by omega)) ht (by omega)
    · obtain ⟨f, rfl⟩ : ∃ g, f = g + 1 := ⟨f - 1, by omega⟩
      rw [wX_raise_7]
      refine br_t (by decide) (am_X_fin (by omega) ?_)
      exact h
    · obtain ⟨f, rfl⟩ : ∃ g, f = g + 1 := ⟨f - 1, by omega⟩
      rw [wY_raise_2]
      refine br_f (nI_nlt (a := 8) (by omega) (by omega)) ?_
      have hf0 : upd fd t 0 = fd := am_uk hf
      simp (disch := omega) only [hf, hf0, nI_0, nI_clamp, pk_us, am_uu, nI_1, nI_pred, am_ip, nI_add, am_m8, am_m4, vp_in_nI, true_and, and_true, forall_eq, true_implies, false_implies, not_true_eq_false, not_false_eq_true, am_ne_1_0, Int32.reduceLT, Int32.reduceLE]
      exact h
  | succ d ih =>
    intro mk fd ho rl hd hf I
    have hM := I.1
    have hF := I.2.2.2.2.1
    have I' := am_I_fd (d := d) (am_I_mk (x := fs (t * 8 + d)) I ht) ht (by omega)
    by_cases hk : fk (t * 8 + d) = 1
    · refine ⟨st, (upd pc t (fa (t * 8 + d))), (upd mk t (fs (t * 8 + d))), ex, (upd sd t 1), (upd fd t (nI d)), pn, (upd sk (t * 8) e), fk, fa, fs, pX, pY, (am_ho fk fa ho (t * 8 + d)), aq, (am_rl fk fa rl (t * 8 + d)), am_I_sd (d := 1) I' ht (by omega), P, fun post h f hf' => ?_, fun post h n f hn hf' => ?_⟩
      · obtain ⟨f, rfl⟩ : ∃ g, f = g + 1 := ⟨f - 1, by omega⟩
        rw [wX_raise_7]
        refine br_f (nI_nle (by omega) (by omega)) (am_X_pop hF (by omega) (by omega) hf ?_)
        simp (disch := omega) only [hk, nI_clamp, pk_us, am_uu, nI_1, nI_pred, am_ip, nI_add, am_m8, am_m4, vp_in_nI, true_and, and_true, forall_eq, true_implies, false_implies, not_true_eq_false, not_false_eq_true, am_ne_1_0, Int32.reduceLT, Int32.reduceLE]
        exact h
      · obtain ⟨f, rfl⟩ : ∃ g, f = g + 1 := ⟨f - 1, by omega⟩
        rw [wY_raise_2]
        refine br_f (nI_nlt (a := 8) (by omega) (by omega)) ?_
        refine ⟨vp_in_nI (by omega) (by omega), br_f ?_ (am_Y_pop hF (by omega) (by omega) hf ?_)⟩
        · simp (disch := omega) only [hf, nI_clamp, pk_us, am_uu, nI_1, nI_pred, am_ip, nI_add, am_m8, am_m4, vp_in_nI, true_and, and_true, forall_eq, true_implies, false_implies, not_true_eq_false, not_false_eq_true, am_ne_1_0, Int32.reduceLT, Int32.reduceLE]
          exact nI_ne0 (by omega) (by omega)
        · simp (disch := omega) only [hk, wpY_push, Int32.add_zero, Int32.zero_add, nI_clamp, pk_us, am_uu, nI_1, nI_pred, am_ip, nI_add, am_m8, am_m4, vp_in_nI, true_and, and_true, forall_eq, true_implies, false_implies, not_true_eq_false, not_false_eq_true, am_ne_1_0, Int32.reduceLT, Int32.reduceLE]
          exact h
    · obtain ⟨st', pc', mk', ex', sd', fd', pn', sk', fk', fa', fs', pX', pY', ho', aq', rl', hI', hP', hX', hY'⟩ := ih _ _ (am_ho fk fa ho (t * 8 + d)) (am_rl fk fa rl (t * 8 + d)) (by omega) pk_us I'
      refine ⟨st', pc', mk', ex', sd', fd', pn', sk', fk', fa', fs', pX', pY', ho', aq', rl', hI', hP', fun post h f hf' => ?_, fun post h n f hn hf' => ?_⟩
      · obtain ⟨f, rfl⟩ : ∃ g, f = g + 1 := ⟨f - 1, by omega⟩
        rw [wX_raise_7]
        refine br_f (nI_nle (by omega) (by omega)) (am_X_pop hF (by omega) (by omega) hf ?_)
        simp (disch := omega) only [hk, pk_m1, nI_clamp, pk_us, am_uu, nI_1, nI_pred, am_ip, nI_add, am_m8, am_m4, vp_in_nI, true_and, and_true, forall_eq, true_implies, false_implies, not_true_eq_false, not_false_eq_true, am_ne_1_0, Int32.reduceLT, Int32.reduceLE]
        exact hX' post h f (by omega)
      · obtain ⟨f, rfl⟩ : ∃ g, f = g + 1 := ⟨f - 1, by omega⟩
        rw [wY_raise_2]
        refine br_f (nI_nlt (a := 8) (by omega) (by omega)) ?_
        refine ⟨vp_in_nI (by omega) (by omega), br_f ?_ (am_Y_pop hF (by omega) (by omega) hf ?_)⟩
        · simp (disch := omega) only [hf, nI_clamp, pk_us, am_uu, nI_1, nI_pred, am_ip, nI_add, am_m8, am_m4, vp_in_nI, true_and, and_true, forall_eq, true_implies, false_implies, not_true_eq_false, not_false_eq_true, am_ne_1_0, Int32.reduceLT, Int32.reduceLE]
          exact nI_ne0 (by omega) (by omega)
        · simp (disch := omega) only [hk, nI_clamp, pk_us, am_uu, nI_1, nI_pred, am_ip, nI_add, am_m8, am_m4, vp_in_nI, true_and, and_true, forall_eq, true_implies, false_implies, not_true_eq_false, not_false_eq_true, am_ne_1_0, Int32.reduceLT, Int32.reduceLE]
          exact hY' post h (n + 1) f (by omega) (by omega)
theorem am_raise {e : Int32} (I : am_I M st mk ex sd fd pn fk fa) (P : am_P pn pX pY) (ht : t < M) : am_Out C Z N M co ca (fun post => wpX_raise post (nI C, nI Z, nI N, nI M, co, ca, st, pc, mk, ex, sd, fd, pn, sk, fk, fa, fs, pX, ho, aq, rl) (nI t) e) (fun post => wpY_raise post (nI C, nI Z, nI N, nI M, co, ca, st, pc, mk, ex, sd, fd, pn, sk, fk, fa, fs, pY, ho, aq, rl) (nI t) e) := by
  obtain ⟨d, hd, hf⟩ := I.2.2.1 t
  have hM := I.1
  obtain ⟨st', pc', mk', ex', sd', fd', pn', sk', fk', fa', fs', pX', pY', ho', aq', rl', hI', hP', hX', hY'⟩ := am_ra (e := e) (pc := pc) (sk := sk) (fs := fs) (aq := aq) ht P d mk fd ho rl hd hf I
  refine ⟨st', pc', mk', ex', sd', fd', pn', sk', fk', fa', fs', pX', pY', ho', aq', rl', hI', hP', fun post h => ?_, fun post h => ?_⟩
  · simp (disch := omega) only [wpX_raise, hf, nI_clamp, pk_us, am_uu, nI_1, nI_pred, am_ip, nI_add, am_m8, am_m4, vp_in_nI, true_and, and_true, forall_eq, true_implies, false_implies, not_true_eq_false, not_false_eq_true, am_ne_1_0, Int32.reduceLT, Int32.reduceLE]
    exact ⟨d + 1, hX' post h (d + 1) (by omega)⟩
  · simp (disch := omega) only [wpY_raise, nI_clamp, pk_us, am_uu, nI_1, nI_pred, am_ip, nI_add, am_m8, am_m4, vp_in_nI, true_and, and_true, forall_eq, true_implies, false_implies, not_true_eq_false, not_false_eq_true, am_ne_1_0, Int32.reduceLT, Int32.reduceLE]
    exact ⟨9, hY' post h 0 9 (by omega) (by omega)⟩
end
end
section
section
variable {C Z N M t p d : Nat} {co ca st pc mk ex sd fd pn sk fk fa fs pd pX pY ho aq rl : Nat → Int32}
theorem am_Y_idle (ht : t < 4) (hf : fd t = 0) {post : SY → Prop} (h : post (nI C, nI Z, nI N, nI M, co, ca, (upd st t 2), pc, mk, ex, (upd sd t 0), fd, (upd pn t 0), sk, fk, fa, fs, pd, ho, aq, rl)) : ∀ k n f, n + k = 8 → k < f → wY_exec_755 post (nI t) f (nI n) (nI C) (nI Z) (nI N) (nI M) co ca st pc mk ex sd fd pn sk fk fa fs pd ho aq rl := by
  intro k
  induction k with
  | zero =>
    intro n f hn hf'
    obtain ⟨f, rfl⟩ : ∃ g, f = g + 1 := ⟨f - 1, by omega⟩
    obtain rfl : n = 8 := by omega
    rw [wY_exec_755]
    refine br_t (by decide) ?_
    simp (disch := omega) only [nI_clamp, pk_us, am_uu, nI_1, nI_pred, am_ip, nI_add, am_m8, am_m4, vp_in_nI, true_and, and_true, forall_eq, true_implies, false_implies, not_true_eq_false, not_false_eq_true, am_ne_1_0, Int32.reduceLT, Int32.reduceLE]
    exact h
  | succ k ih =>
    intro n f hn hf'
    obtain ⟨f, rfl⟩ : ∃ g, f = g + 1 := ⟨f - 1, by omega⟩
    rw [wY_exec_755]
    refine br_f (nI_ge (b := 8) (by omega) (by omega)) ?_
    simp (disch := omega) only [hf, nI_clamp, pk_us, am_uu, nI_1, nI_pred, am_ip, nI_add, am_m8, am_m4, vp_in_nI, true_and, and_true, forall_eq, true_implies, false_implies, not_true_eq_false, not_false_eq_true, am_ne_1_0, Int32.reduceLT, Int32.reduceLE]
    exact ih (n + 1) f (by omega) (by omega)
theorem am_ha (ht : t < M) (P : am_P pn pX pY) (hx : ex t = 0) : ∀ (d : Nat) (mk fd ho rl : Nat → Int32), d ≤ 8 → fd t = nI d → am_I M st mk ex sd fd pn fk fa → am_Out C Z N M co ca (fun post => ∀ f, d < f → wX_halt_7 post (nI t) f (nI d) (nI C) (nI Z) (nI N) (nI M) co ca st pc mk ex sd fd pn sk fk fa fs pX ho aq rl) (fun post => ∀ n f, n + d ≤ 8 → 8 - n < f → wY_exec_755 post (nI t) f (nI n) (nI C) (nI Z) (nI N) (nI M) co ca st pc mk ex sd fd pn sk fk fa fs pY ho aq rl) := by
  intro d
  induction d with
  | zero =>
    intro mk fd ho rl hd hf I
    have hM := I.1
    have J := am_I_se (x := 2) (y := 0) I ht (by decide)
    rw [am_uk hx] at J
    refine ⟨(upd st t 2), pc, mk, ex, (upd sd t 0), fd, (upd pn t 0), sk, fk, fa, fs, pX, pY, ho, aq, rl, ?_, am_P_z P, fun post h f hf' => ?_, fun post h n f hn hf' => ?_⟩
    · exact am_I_pn (d := 0) (am_I_sd (d := 0) J ht (by omega)) ht (by omega)
    · obtain ⟨f, rfl⟩ : ∃ g, f = g + 1 := ⟨f - 1, by omega⟩
      rw [wX_halt_7]
      refine br_t (by decide) (am_X_fin (by omega) ?_)
      simp only [am_uk hx]
      exact h
    · exact am_Y_idle (by omega) hf h (8 - n) n f (by omega) hf'
  | succ d ih =>
    intro mk fd ho rl hd hf I
    have hM := I.1
    have hF := I.2.2.2.2.1
    have I' := am_I_fd (d := d) (am_I_mk (x := fs (t * 8 + d)) I ht) ht (by omega)
    obtain ⟨st', pc', mk', ex', sd', fd', pn', sk', fk', fa', fs', pX', pY', ho', aq', rl', hI', hP', hX', hY'⟩ := ih _ _ (am_ho fk fa ho (t * 8 + d)) (am_rl fk fa rl (t * 8 + d)) (by omega) pk_us I'
    refine ⟨st', pc', mk', ex', sd', fd', pn', sk', fk', fa', fs', pX', pY', ho', aq', rl', hI', hP', fun post h f hf' => ?_, fun post h n f hn hf' => ?_⟩
    · obtain ⟨f, rfl⟩ : ∃ g, f = g + 1 := ⟨f - 1, by omega⟩
      rw [wX_halt_7]
      refine br_f (nI_nle (by omega) (by omega)) (am_X_pop hF (by omega) (by omega) hf ?_)
      simp (disch := omega) only [pk_m1, nI_clamp, pk_us, am_uu, nI_1, nI_pred, am_ip, nI_add, am_m8, am_m4, vp_in_nI, true_and, and_true, forall_eq, true_implies, false_implies, not_true_eq_false, not_false_eq_true, am_ne_1_0, Int32.reduceLT, Int32.reduceLE]
      exact hX' post h f (by omega)
    · obtain ⟨f, rfl⟩ : ∃ g, f = g + 1 := ⟨f - 1, by omega⟩
      rw [wY_exec_755]
      refine br_f (nI_ge (b := 8) (by omega) (by omega)) ?_
      refine ⟨vp_in_nI (by omega) (by omega), br_f ?_ (am_Y_pop hF (by omega) (by omega) hf ?_)⟩
      · simp (disch := omega) only [hf, nI_clamp, pk_us, am_uu, nI_1, nI_pred, am_ip, nI_add, am_m8, am_m4, vp_in_nI, true_and, and_true, forall_eq, true_implies, false_implies, not_true_eq_false, not_false_eq_true, am_ne_1_0, Int32.reduceLT, Int32.reduceLE]
        exact nI_nle (by omega) (by omega)
      · simp (disch := omega) only [nI_clamp, pk_us, am_uu, nI_1, nI_pred, am_ip, nI_add, am_m8, am_m4, vp_in_nI, true_and, and_true, forall_eq, true_implies, false_implies, not_true_eq_false, not_false_eq_true, am_ne_1_0, Int32.reduceLT, Int32.reduceLE]
        exact hY' post h (n + 1) f (by omega) (by omega)
end
end
section
section
variable {C Z N M t p d : Nat} {co ca st pc mk ex sd fd pn sk fk fa fs pd pX pY ho aq rl : Nat → Int32}
theorem am_op_push_full (I : am_I M st mk ex sd fd pn fk fa) (P : am_P pn pX pY) (ht : t < M) (hN : N ≤ 64) (hp : p < N) (hpc : pc t = nI p) (hop : co p = 1) (hs : sd t = 8) : am_Out C Z N M co ca (fun post => wpX_execute post (nI C, nI Z, nI N, nI M, co, ca, st, pc, mk, ex, sd, fd, pn, sk, fk, fa, fs, pX, ho, aq, rl) (nI t)) (fun post => wpY_exec post (nI C, nI Z, nI N, nI M, co, ca, st, pc, mk, ex, sd, fd, pn, sk, fk, fa, fs, pY, ho, aq, rl) (nI t)) := by
  have hM := I.1
  obtain ⟨st', pc', mk', ex', sd', fd', pn', sk', fk', fa', fs', pX', pY', ho', aq', rl', hI', hP', hX', hY'⟩ := am_raise (C := C) (Z := Z) (N := N) (co := co) (ca := ca) (pc := (upd pc t (nI (p + 1)))) (sk := sk) (fs := fs) (ho := ho) (aq := aq) (rl := rl) (e := (-2)) I P ht
  refine ⟨st', pc', mk', ex', sd', fd', pn', sk', fk', fa', fs', pX', pY', ho', aq', rl', hI', hP', fun post h => ?_, fun post h => ?_⟩
  · simp (disch := omega) only [wpX_execute, wpX_push, hpc, hop, hs, nI_clamp, pk_us, am_uu, nI_1, nI_pred, am_ip, nI_add, am_m8, am_m4, vp_in_nI, true_and, and_true, forall_eq, true_implies, false_implies, not_true_eq_false, not_false_eq_true, am_ne_1_0, Int32.reduceLT, Int32.reduceLE]
    exact hX' _ h
  · simp (disch := omega) only [wpY_exec, wpY_push, hpc, hop, hs, nI_clamp, pk_us, am_uu, nI_1, nI_pred, am_ip, nI_add, am_m8, am_m4, vp_in_nI, true_and, and_true, forall_eq, true_implies, false_implies, not_true_eq_false, not_false_eq_true, am_ne_1_0, Int32.reduceLT, Int32.reduceLE]
    exact hY' _ h
theorem am_op_push (I : am_I M st mk ex sd fd pn fk fa) (P : am_P pn pX pY) (ht : t < M) (hN : N ≤ 64) (hp : p < N) (hpc : pc t = nI p) (hop : co p = 1) (hs : sd t = nI d) (hd : d < 8) : am_Out C Z N M co ca (fun post => wpX_execute post (nI C, nI Z, nI N, nI M, co, ca, st, pc, mk, ex, sd, fd, pn, sk, fk, fa, fs, pX, ho, aq, rl) (nI t)) (fun post => wpY_exec post (nI C, nI Z, nI N, nI M, co, ca, st, pc, mk, ex, sd, fd, pn, sk, fk, fa, fs, pY, ho, aq, rl) (nI t)) := by
  have hM := I.1
  have q8 : ¬ nI (d) = 8 := fun q => by rw [am_eq8 (by omega)] at q; omega
  refine ⟨st, (upd pc t (nI (p + 1))), mk, ex, (upd sd t (nI (d + 1))), fd, pn, (upd sk (t * 8 + d) (ca p)), fk, fa, fs, pX, pY, ho, aq, rl, (am_I_sd (d := (d + 1)) I ht (by omega)), P, fun post h => ?_, fun post h => ?_⟩
  · simp (disch := omega) only [wpX_execute, wpX_push, hpc, hop, hs, q8, nI_clamp, pk_us, am_uu, nI_1, nI_pred, am_ip, nI_add, am_m8, am_m4, vp_in_nI, true_and, and_true, forall_eq, true_implies, false_implies, not_true_eq_false, not_false_eq_true, am_ne_1_0, Int32.reduceLT, Int32.reduceLE]
    exact h
  · simp (disch := omega) only [wpY_exec, wpY_push, hpc, hop, hs, q8, nI_clamp, pk_us, am_uu, nI_1, nI_pred, am_ip, nI_add, am_m8, am_m4, vp_in_nI, true_and, and_true, forall_eq, true_implies, false_implies, not_true_eq_false, not_false_eq_true, am_ne_1_0, Int32.reduceLT, Int32.reduceLE]
    exact h
theorem am_op_myid_full (I : am_I M st mk ex sd fd pn fk fa) (P : am_P pn pX pY) (ht : t < M) (hN : N ≤ 64) (hp : p < N) (hpc : pc t = nI p) (hop : co p = 8) (hs : sd t = 8) : am_Out C Z N M co ca (fun post => wpX_execute post (nI C, nI Z, nI N, nI M, co, ca, st, pc, mk, ex, sd, fd, pn, sk, fk, fa, fs, pX, ho, aq, rl) (nI t)) (fun post => wpY_exec post (nI C, nI Z, nI N, nI M, co, ca, st, pc, mk, ex, sd, fd, pn, sk, fk, fa, fs, pY, ho, aq, rl) (nI t)) := by
  have hM := I.1
  obtain ⟨st', pc', mk', ex', sd', fd', pn', sk', fk', fa', fs', pX', pY', ho', aq', rl', hI', hP', hX', hY'⟩ := am_raise (C := C) (Z := Z) (N := N) (co := co) (ca := ca) (pc := (upd pc t (nI (p + 1)))) (sk := sk) (fs := fs) (ho := ho) (aq := aq) (rl := rl) (e := (-2)) I P ht
  refine ⟨st', pc', mk', ex', sd', fd', pn', sk', fk', fa', fs', pX', pY', ho', aq', rl', hI', hP', fun post h => ?_, fun post h => ?_⟩
  · simp (disch := omega) only [wpX_execute, wpX_push, hpc, hop, am_ne_8_1, am_ne_8_2, am_ne_8_3, am_ne_8_4, am_ne_8_5, am_ne_8_6, am_ne_8_7, hs, nI_clamp, pk_us, am_uu, nI_1, nI_pred, am_ip, nI_add, am_m8, am_m4, vp_in_nI, true_and, and_true, forall_eq, true_implies, false_implies, not_true_eq_false, not_false_eq_true, am_ne_1_0, Int32.reduceLT, Int32.reduceLE]
    exact hX' _ h
  · simp (disch := omega) only [wpY_exec, wpY_push, hpc, hop, am_ne_8_1, am_ne_8_2, am_ne_8_3, am_ne_8_4, am_ne_8_5, am_ne_8_6, am_ne_8_7, hs, nI_clamp, pk_us, am_uu, nI_1, nI_pred, am_ip, nI_add, am_m8, am_m4, vp_in_nI, true_and, and_true, forall_eq, true_implies, false_implies, not_true_eq_false, not_false_eq_true, am_ne_1_0, Int32.reduceLT, Int32.reduceLE]
    exact hY' _ h
theorem am_op_myid (I : am_I M st mk ex sd fd pn fk fa) (P : am_P pn pX pY) (ht : t < M) (hN : N ≤ 64) (hp : p < N) (hpc : pc t = nI p) (hop : co p = 8) (hs : sd t = nI d) (hd : d < 8) : am_Out C Z N M co ca (fun post => wpX_execute post (nI C, nI Z, nI N, nI M, co, ca, st, pc, mk, ex, sd, fd, pn, sk, fk, fa, fs, pX, ho, aq, rl) (nI t)) (fun post => wpY_exec post (nI C, nI Z, nI N, nI M, co, ca, st, pc, mk, ex, sd, fd, pn, sk, fk, fa, fs, pY, ho, aq, rl) (nI t)) := by
  have hM := I.1
  have q8 : ¬ nI (d) = 8 := fun q => by rw [am_eq8 (by omega)] at q; omega
  refine ⟨st, (upd pc t (nI (p + 1))), mk, ex, (upd sd t (nI (d + 1))), fd, pn, (upd sk (t * 8 + d) (nI t)), fk, fa, fs, pX, pY, ho, aq, rl, (am_I_sd (d := (d + 1)) I ht (by omega)), P, fun post h => ?_, fun post h => ?_⟩
  · simp (disch := omega) only [wpX_execute, wpX_push, hpc, hop, am_ne_8_1, am_ne_8_2, am_ne_8_3, am_ne_8_4, am_ne_8_5, am_ne_8_6, am_ne_8_7, hs, q8, nI_clamp, pk_us, am_uu, nI_1, nI_pred, am_ip, nI_add, am_m8, am_m4, vp_in_nI, true_and, and_true, forall_eq, true_implies, false_implies, not_true_eq_false, not_false_eq_true, am_ne_1_0, Int32.reduceLT, Int32.reduceLE]
    exact h
  · simp (disch := omega) only [wpY_exec, wpY_push, hpc, hop, am_ne_8_1, am_ne_8_2, am_ne_8_3, am_ne_8_4, am_ne_8_5, am_ne_8_6, am_ne_8_7, hs, q8, nI_clamp, pk_us, am_uu, nI_1, nI_pred, am_ip, nI_add, am_m8, am_m4, vp_in_nI, true_and, and_true, forall_eq, true_implies, false_implies, not_true_eq_false, not_false_eq_true, am_ne_1_0, Int32.reduceLT, Int32.reduceLE]
    exact h
theorem am_op_pop_0 (I : am_I M st mk ex sd fd pn fk fa) (P : am_P pn pX pY) (ht : t < M) (hN : N ≤ 64) (hp : p < N) (hpc : pc t = nI p) (hop : co p = 2) (hs : sd t = 0) : am_Out C Z N M co ca (fun post => wpX_execute post (nI C, nI Z, nI N, nI M, co, ca, st, pc, mk, ex, sd, fd, pn, sk, fk, fa, fs, pX, ho, aq, rl) (nI t)) (fun post => wpY_exec post (nI C, nI Z, nI N, nI M, co, ca, st, pc, mk, ex, sd, fd, pn, sk, fk, fa, fs, pY, ho, aq, rl) (nI t)) := by
  have hM := I.1
  obtain ⟨st', pc', mk', ex', sd', fd', pn', sk', fk', fa', fs', pX', pY', ho', aq', rl', hI', hP', hX', hY'⟩ := am_raise (C := C) (Z := Z) (N := N) (co := co) (ca := ca) (pc := (upd pc t (nI (p + 1)))) (sk := sk) (fs := fs) (ho := ho) (aq := aq) (rl := rl) (e := (-1)) I P ht
  refine ⟨st', pc', mk', ex', sd', fd', pn', sk', fk', fa', fs', pX', pY', ho', aq', rl', hI', hP', fun post h => ?_, fun post h => ?_⟩
  · simp (disch := omega) only [wpX_execute, wpX_discardTop, wpX_requireOperands, hpc, hop, am_ne_2_1, hs, nI_clamp, pk_us, am_uu, nI_1, nI_pred, am_ip, nI_add, am_m8, am_m4, vp_in_nI, true_and, and_true, forall_eq, true_implies, false_implies, not_true_eq_false, not_false_eq_true, am_ne_1_0, Int32.reduceLT, Int32.reduceLE]
    exact hX' _ h
  · simp (disch := omega) only [wpY_exec, hpc, hop, am_ne_2_1, hs, nI_clamp, pk_us, am_uu, nI_1, nI_pred, am_ip, nI_add, am_m8, am_m4, vp_in_nI, true_and, and_true, forall_eq, true_implies, false_implies, not_true_eq_false, not_false_eq_true, am_ne_1_0, Int32.reduceLT, Int32.reduceLE]
    exact hY' _ h
theorem am_op_pop (I : am_I M st mk ex sd fd pn fk fa) (P : am_P pn pX pY) (ht : t < M) (hN : N ≤ 64) (hp : p < N) (hpc : pc t = nI p) (hop : co p = 2) (hs : sd t = nI (d + 1)) (hd : d < 8) : am_Out C Z N M co ca (fun post => wpX_execute post (nI C, nI Z, nI N, nI M, co, ca, st, pc, mk, ex, sd, fd, pn, sk, fk, fa, fs, pX, ho, aq, rl) (nI t)) (fun post => wpY_exec post (nI C, nI Z, nI N, nI M, co, ca, st, pc, mk, ex, sd, fd, pn, sk, fk, fa, fs, pY, ho, aq, rl) (nI t)) := by
  have hM := I.1
  have q0 : ¬ nI (d + 1) = 0 := fun q => by rw [am_eq0 (by omega)] at q; omega
  have q1 : 1 ≤ nI (d + 1) := nI_le (a := 1) (by omega) (by omega)
  refine ⟨st, (upd pc t (nI (p + 1))), mk, ex, (upd sd t (nI d)), fd, pn, sk, fk, fa, fs, pX, pY, ho, aq, rl, (am_I_sd (d := d) I ht (by omega)), P, fun post h => ?_, fun post h => ?_⟩
  · simp (disch := omega) only [wpX_execute, wpX_discardTop, wpX_requireOperands, hpc, hop, am_ne_2_1, hs, q0, q1, nI_clamp, pk_us, am_uu, nI_1, nI_pred, am_ip, nI_add, am_m8, am_m4, vp_in_nI, true_and, and_true, forall_eq, true_implies, false_implies, not_true_eq_false, not_false_eq_true, am_ne_1_0, Int32.reduceLT, Int32.reduceLE]
    exact h
  · simp (disch := omega) only [wpY_exec, hpc, hop, am_ne_2_1, hs, q0, q1, nI_clamp, pk_us, am_uu, nI_1, nI_pred, am_ip, nI_add, am_m8, am_m4, vp_in_nI, true_and, and_true, forall_eq, true_implies, false_implies, not_true_eq_false, not_false_eq_true, am_ne_1_0, Int32.reduceLT, Int32.reduceLE]
    exact h
theorem am_op_dup_0 (I : am_I M st mk ex sd fd pn fk fa) (P : am_P pn pX pY) (ht : t < M) (hN : N ≤ 64) (hp : p < N) (hpc : pc t = nI p) (hop : co p = 3) (hs : sd t = 0) : am_Out C Z N M co ca (fun post => wpX_execute post (nI C, nI Z, nI N, nI M, co, ca, st, pc, mk, ex, sd, fd, pn, sk, fk, fa, fs, pX, ho, aq, rl) (nI t)) (fun post => wpY_exec post (nI C, nI Z, nI N, nI M, co, ca, st, pc, mk, ex, sd, fd, pn, sk, fk, fa, fs, pY, ho, aq, rl) (nI t)) := by
  have hM := I.1
  obtain ⟨st', pc', mk', ex', sd', fd', pn', sk', fk', fa', fs', pX', pY', ho', aq', rl', hI', hP', hX', hY'⟩ := am_raise (C := C) (Z := Z) (N := N) (co := co) (ca := ca) (pc := (upd pc t (nI (p + 1)))) (sk := sk) (fs := fs) (ho := ho) (aq := aq) (rl := rl) (e := (-1)) I P ht
  refine ⟨st', pc', mk', ex', sd', fd', pn', sk', fk', fa', fs', pX', pY', ho', aq', rl', hI', hP', fun post h => ?_, fun post h => ?_⟩
  · simp (disch := omega) only [wpX_execute, wpX_duplicateTop, wpX_requireOperands, hpc, hop, am_ne_3_1, am_ne_3_2, hs, nI_clamp, pk_us, am_uu, nI_1, nI_pred, am_ip, nI_add, am_m8, am_m4, vp_in_nI, true_and, and_true, forall_eq, true_implies, false_implies, not_true_eq_false, not_false_eq_true, am_ne_1_0, Int32.reduceLT, Int32.reduceLE]
    exact hX' _ h
  · simp (disch := omega) only [wpY_exec, hpc, hop, am_ne_3_1, am_ne_3_2, hs, nI_clamp, pk_us, am_uu, nI_1, nI_pred, am_ip, nI_add, am_m8, am_m4, vp_in_nI, true_and, and_true, forall_eq, true_implies, false_implies, not_true_eq_false, not_false_eq_true, am_ne_1_0, Int32.reduceLT, Int32.reduceLE]
    exact hY' _ h
theorem am_op_dup_full (I : am_I M st mk ex sd fd pn fk fa) (P : am_P pn pX pY) (ht : t < M) (hN : N ≤ 64) (hp : p < N) (hpc : pc t = nI p) (hop : co p = 3) (hs : sd t = nI (d + 1)) (hd : d = 7) : am_Out C Z N M co ca (fun post => wpX_execute post (nI C, nI Z, nI N, nI M, co, ca, st, pc, mk, ex, sd, fd, pn, sk, fk, fa, fs, pX, ho, aq, rl) (nI t)) (fun post => wpY_exec post (nI C, nI Z, nI N, nI M, co, ca, st, pc, mk, ex, sd, fd, pn, sk, fk, fa, fs, pY, ho, aq, rl) (nI t)) := by
  have hM := I.1
  have q0 : ¬ nI (d + 1) = 0 := fun q => by rw [am_eq0 (by omega)] at q; omega
  have q1 : 1 ≤ nI (d + 1) := nI_le (a := 1) (by omega) (by omega)
  have q8 : (nI (d + 1) = 8) = True := eq_true (by rw [hd]; rfl)
  obtain ⟨st', pc', mk', ex', sd', fd', pn', sk', fk', fa', fs', pX', pY', ho', aq', rl', hI', hP', hX', hY'⟩ := am_raise (C := C) (Z := Z) (N := N) (co := co) (ca := ca) (pc := (upd pc t (nI (p + 1)))) (sk := sk) (fs := fs) (ho := ho) (aq := aq) (rl := rl) (e := (-2)) I P ht
  refine ⟨st', pc', mk', ex', sd', fd', pn', sk', fk', fa', fs', pX', pY', ho', aq', rl', hI', hP', fun post h => ?_, fun post h => ?_⟩
  · simp (disch := omega) only [wpX_execute, wpX_duplicateTop, wpX_push, wpX_requireOperands, hpc, hop, am_ne_3_1, am_ne_3_2, hs, q0, q1, q8, nI_clamp, pk_us, am_uu, nI_1, nI_pred, am_ip, nI_add, am_m8, am_m4, vp_in_nI, true_and, and_true, forall_eq, true_implies, false_implies, not_true_eq_false, not_false_eq_true, am_ne_1_0, Int32.reduceLT, Int32.reduceLE]
    exact hX' _ h
  · simp (disch := omega) only [wpY_exec, hpc, hop, am_ne_3_1, am_ne_3_2, hs, q0, q1, q8, nI_clamp, pk_us, am_uu, nI_1, nI_pred, am_ip, nI_add, am_m8, am_m4, vp_in_nI, true_and, and_true, forall_eq, true_implies, false_implies, not_true_eq_false, not_false_eq_true, am_ne_1_0, Int32.reduceLT, Int32.reduceLE]
    exact hY' _ h
theorem am_op_dup (I : am_I M st mk ex sd fd pn fk fa) (P : am_P pn pX pY) (ht : t < M) (hN : N ≤ 64) (hp : p < N) (hpc : pc t = nI p) (hop : co p = 3) (hs : sd t = nI (d + 1)) (hd : d + 1 < 8) : am_Out C Z N M co ca (fun post => wpX_execute post (nI C, nI Z, nI N, nI M, co, ca, st, pc, mk, ex, sd, fd, pn, sk, fk, fa, fs, pX, ho, aq, rl) (nI t)) (fun post => wpY_exec post (nI C, nI Z, nI N, nI M, co, ca, st, pc, mk, ex, sd, fd, pn, sk, fk, fa, fs, pY, ho, aq, rl) (nI t)) := by
  have hM := I.1
  have q0 : ¬ nI (d + 1) = 0 := fun q => by rw [am_eq0 (by omega)] at q; omega
  have q8 : ¬ nI (d + 1) = 8 := fun q => by rw [am_eq8 (by omega)] at q; omega
  have q1 : 1 ≤ nI (d + 1) := nI_le (a := 1) (by omega) (by omega)
  refine ⟨st, (upd pc t (nI (p + 1))), mk, ex, (upd sd t (nI (d + 1 + 1))), fd, pn, (upd sk (t * 8 + (d + 1)) (sk (t * 8 + d))), fk, fa, fs, pX, pY, ho, aq, rl, (am_I_sd (d := (d + 1 + 1)) I ht (by omega)), P, fun post h => ?_, fun post h => ?_⟩
  · simp (disch := omega) only [wpX_execute, wpX_duplicateTop, wpX_push, wpX_requireOperands, hpc, hop, am_ne_3_1, am_ne_3_2, hs, q0, q1, q8, nI_clamp, pk_us, am_uu, nI_1, nI_pred, am_ip, nI_add, am_m8, am_m4, vp_in_nI, true_and, and_true, forall_eq, true_implies, false_implies, not_true_eq_false, not_false_eq_true, am_ne_1_0, Int32.reduceLT, Int32.reduceLE]
    exact h
  · simp (disch := omega) only [wpY_exec, wpY_push, hpc, hop, am_ne_3_1, am_ne_3_2, hs, q0, q1, q8, nI_clamp, pk_us, am_uu, nI_1, nI_pred, am_ip, nI_add, am_m8, am_m4, vp_in_nI, true_and, and_true, forall_eq, true_implies, false_implies, not_true_eq_false, not_false_eq_true, am_ne_1_0, Int32.reduceLT, Int32.reduceLE]
    exact h
theorem am_op_add_0 (I : am_I M st mk ex sd fd pn fk fa) (P : am_P pn pX pY) (ht : t < M) (hN : N ≤ 64) (hp : p < N) (hpc : pc t = nI p) (hop : co p = 4) (hs : sd t = nI d) (hd : d < 2) : am_Out C Z N M co ca (fun post => wpX_execute post (nI C, nI Z, nI N, nI M, co, ca, st, pc, mk, ex, sd, fd, pn, sk, fk, fa, fs, pX, ho, aq, rl) (nI t)) (fun post => wpY_exec post (nI C, nI Z, nI N, nI M, co, ca, st, pc, mk, ex, sd, fd, pn, sk, fk, fa, fs, pY, ho, aq, rl) (nI t)) := by
  have hM := I.1
  have q2 : ¬ 2 ≤ nI d := nI_ge (b := 2) hd (by omega)
  obtain ⟨st', pc', mk', ex', sd', fd', pn', sk', fk', fa', fs', pX', pY', ho', aq', rl', hI', hP', hX', hY'⟩ := am_raise (C := C) (Z := Z) (N := N) (co := co) (ca := ca) (pc := (upd pc t (nI (p + 1)))) (sk := sk) (fs := fs) (ho := ho) (aq := aq) (rl := rl) (e := (-1)) I P ht
  refine ⟨st', pc', mk', ex', sd', fd', pn', sk', fk', fa', fs', pX', pY', ho', aq', rl', hI', hP', fun post h => ?_, fun post h => ?_⟩
  · simp (disch := omega) only [wpX_execute, wpX_addTopTwo, wpX_requireOperands, hpc, hop, am_ne_4_1, am_ne_4_2, am_ne_4_3, hs, q2, nI_clamp, pk_us, am_uu, nI_1, nI_pred, am_ip, nI_add, am_m8, am_m4, vp_in_nI, true_and, and_true, forall_eq, true_implies, false_implies, not_true_eq_false, not_false_eq_true, am_ne_1_0, Int32.reduceLT, Int32.reduceLE]
    exact hX' _ h
  · simp (disch := omega) only [wpY_exec, wY_exec_224, hpc, hop, am_ne_4_1, am_ne_4_2, am_ne_4_3, hs, q2, nI_clamp, pk_us, am_uu, nI_1, nI_pred, am_ip, nI_add, am_m8, am_m4, vp_in_nI, true_and, and_true, forall_eq, true_implies, false_implies, not_true_eq_false, not_false_eq_true, am_ne_1_0, Int32.reduceLT, Int32.reduceLE]
    exact hY' _ h
theorem am_op_add (I : am_I M st mk ex sd fd pn fk fa) (P : am_P pn pX pY) (ht : t < M) (hN : N ≤ 64) (hp : p < N) (hpc : pc t = nI p) (hop : co p = 4) (hs : sd t = nI (d + 1 + 1)) (hd : d + 1 < 8) : am_Out C Z N M co ca (fun post => wpX_execute post (nI C, nI Z, nI N, nI M, co, ca, st, pc, mk, ex, sd, fd, pn, sk, fk, fa, fs, pX, ho, aq, rl) (nI t)) (fun post => wpY_exec post (nI C, nI Z, nI N, nI M, co, ca, st, pc, mk, ex, sd, fd, pn, sk, fk, fa, fs, pY, ho, aq, rl) (nI t)) := by
  have hM := I.1
  have q2 : 2 ≤ nI (d + 1 + 1) := nI_le (a := 2) (by omega) (by omega)
  have q8 : ¬ nI (d) = 8 := fun q => by rw [am_eq8 (by omega)] at q; omega
  refine ⟨st, (upd pc t (nI (p + 1))), mk, ex, (upd sd t (nI (d + 1))), fd, pn, (upd sk (t * 8 + d) (sk (t * 8 + d) + sk (t * 8 + (d + 1)))), fk, fa, fs, pX, pY, ho, aq, rl, (am_I_sd (d := (d + 1)) I ht (by omega)), P, fun post h => ?_, fun post h => ?_⟩
  · simp (disch := omega) only [wpX_execute, wpX_addTopTwo, wpX_popTop, wpX_push, wpX_requireOperands, hpc, hop, am_ne_4_1, am_ne_4_2, am_ne_4_3, hs, q2, q8, nI_clamp, pk_us, am_uu, nI_1, nI_pred, am_ip, nI_add, am_m8, am_m4, vp_in_nI, true_and, and_true, forall_eq, true_implies, false_implies, not_true_eq_false, not_false_eq_true, am_ne_1_0, Int32.reduceLT, Int32.reduceLE]
    exact h
  · simp (disch := omega) only [wpY_exec, wY_exec_224, hpc, hop, am_ne_4_1, am_ne_4_2, am_ne_4_3, hs, q2, q8, nI_clamp, pk_us, am_uu, nI_1, nI_pred, am_ip, nI_add, am_m8, am_m4, vp_in_nI, true_and, and_true, forall_eq, true_implies, false_implies, not_true_eq_false, not_false_eq_true, am_ne_1_0, Int32.reduceLT, Int32.reduceLE]
    exact h
theorem am_op_sub_0 (I : am_I M st mk ex sd fd pn fk fa) (P : am_P pn pX pY) (ht : t < M) (hN : N ≤ 64) (hp : p < N) (hpc : pc t = nI p) (hop : co p = 5) (hs : sd t = nI d) (hd : d < 2) : am_Out C Z N M co ca (fun post => wpX_execute post (nI C, nI Z, nI N, nI M, co, ca, st, pc, mk, ex, sd, fd, pn, sk, fk, fa, fs, pX, ho, aq, rl) (nI t)) (fun post => wpY_exec post (nI C, nI Z, nI N, nI M, co, ca, st, pc, mk, ex, sd, fd, pn, sk, fk, fa, fs, pY, ho, aq, rl) (nI t)) := by
  have hM := I.1
  have q2 : ¬ 2 ≤ nI d := nI_ge (b := 2) hd (by omega)
  obtain ⟨st', pc', mk', ex', sd', fd', pn', sk', fk', fa', fs', pX', pY', ho', aq', rl', hI', hP', hX', hY'⟩ := am_raise (C := C) (Z := Z) (N := N) (co := co) (ca := ca) (pc := (upd pc t (nI (p + 1)))) (sk := sk) (fs := fs) (ho := ho) (aq := aq) (rl := rl) (e := (-1)) I P ht
  refine ⟨st', pc', mk', ex', sd', fd', pn', sk', fk', fa', fs', pX', pY', ho', aq', rl', hI', hP', fun post h => ?_, fun post h => ?_⟩
  · simp (disch := omega) only [wpX_execute, wpX_subtractTopTwo, wpX_requireOperands, hpc, hop, am_ne_5_1, am_ne_5_2, am_ne_5_3, am_ne_5_4, hs, q2, nI_clamp, pk_us, am_uu, nI_1, nI_pred, am_ip, nI_add, am_m8, am_m4, vp_in_nI, true_and, and_true, forall_eq, true_implies, false_implies, not_true_eq_false, not_false_eq_true, am_ne_1_0, Int32.reduceLT, Int32.reduceLE]
    exact hX' _ h
  · simp (disch := omega) only [wpY_exec, wY_exec_224, hpc, hop, am_ne_5_1, am_ne_5_2, am_ne_5_3, am_ne_5_4, hs, q2, nI_clamp, pk_us, am_uu, nI_1, nI_pred, am_ip, nI_add, am_m8, am_m4, vp_in_nI, true_and, and_true, forall_eq, true_implies, false_implies, not_true_eq_false, not_false_eq_true, am_ne_1_0, Int32.reduceLT, Int32.reduceLE]
    exact hY' _ h
theorem am_op_sub (I : am_I M st mk ex sd fd pn fk fa) (P : am_P pn pX pY) (ht : t < M) (hN : N ≤ 64) (hp : p < N) (hpc : pc t = nI p) (hop : co p = 5) (hs : sd t = nI (d + 1 + 1)) (hd : d + 1 < 8) : am_Out C Z N M co ca (fun post => wpX_execute post (nI C, nI Z, nI N, nI M, co, ca, st, pc, mk, ex, sd, fd, pn, sk, fk, fa, fs, pX, ho, aq, rl) (nI t)) (fun post => wpY_exec post (nI C, nI Z, nI N, nI M, co, ca, st, pc, mk, ex, sd, fd, pn, sk, fk, fa, fs, pY, ho, aq, rl) (nI t)) := by
  have hM := I.1
  have q2 : 2 ≤ nI (d + 1 + 1) := nI_le (a := 2) (by omega) (by omega)
  have q8 : ¬ nI (d) = 8 := fun q => by rw [am_eq8 (by omega)] at q; omega
  refine ⟨st, (upd pc t (nI (p + 1))), mk, ex, (upd sd t (nI (d + 1))), fd, pn, (upd sk (t * 8 + d) (sk (t * 8 + d) - sk (t * 8 + (d + 1)))), fk, fa, fs, pX, pY, ho, aq, rl, (am_I_sd (d := (d + 1)) I ht (by omega)), P, fun post h => ?_, fun post h => ?_⟩
  · simp (disch := omega) only [wpX_execute, wpX_subtractTopTwo, wpX_popTop, wpX_push, wpX_requireOperands, hpc, hop, am_ne_5_1, am_ne_5_2, am_ne_5_3, am_ne_5_4, hs, q2, q8, nI_clamp, pk_us, am_uu, nI_1, nI_pred, am_ip, nI_add, am_m8, am_m4, vp_in_nI, true_and, and_true, forall_eq, true_implies, false_implies, not_true_eq_false, not_false_eq_true, am_ne_1_0, Int32.reduceLT, Int32.reduceLE]
    exact h
  · simp (disch := omega) only [wpY_exec, wY_exec_224, hpc, hop, am_ne_5_1, am_ne_5_2, am_ne_5_3, am_ne_5_4, hs, q2, q8, nI_clamp, pk_us, am_uu, nI_1, nI_pred, am_ip, nI_add, am_m8, am_m4, vp_in_nI, true_and, and_true, forall_eq, true_implies, false_implies, not_true_eq_false, not_false_eq_true, am_ne_1_0, Int32.reduceLT, Int32.reduceLE]
    exact h
theorem am_op_jmp (I : am_I M st mk ex sd fd pn fk fa) (P : am_P pn pX pY) (ht : t < M) (hN : N ≤ 64) (hp : p < N) (hpc : pc t = nI p) (hop : co p = 6)  : am_Out C Z N M co ca (fun post => wpX_execute post (nI C, nI Z, nI N, nI M, co, ca, st, pc, mk, ex, sd, fd, pn, sk, fk, fa, fs, pX, ho, aq, rl) (nI t)) (fun post => wpY_exec post (nI C, nI Z, nI N, nI M, co, ca, st, pc, mk, ex, sd, fd, pn, sk, fk, fa, fs, pY, ho, aq, rl) (nI t)) := by
  have hM := I.1
  refine ⟨st, (upd pc t (ca p)), mk, ex, sd, fd, pn, sk, fk, fa, fs, pX, pY, ho, aq, rl, I, P, fun post h => ?_, fun post h => ?_⟩
  · simp (disch := omega) only [wpX_execute, hpc, hop, am_ne_6_1, am_ne_6_2, am_ne_6_3, am_ne_6_4, am_ne_6_5, nI_clamp, pk_us, am_uu, nI_1, nI_pred, am_ip, nI_add, am_m8, am_m4, vp_in_nI, true_and, and_true, forall_eq, true_implies, false_implies, not_true_eq_false, not_false_eq_true, am_ne_1_0, Int32.reduceLT, Int32.reduceLE]
    exact h
  · simp (disch := omega) only [wpY_exec, hpc, hop, am_ne_6_1, am_ne_6_2, am_ne_6_3, am_ne_6_4, am_ne_6_5, nI_clamp, pk_us, am_uu, nI_1, nI_pred, am_ip, nI_add, am_m8, am_m4, vp_in_nI, true_and, and_true, forall_eq, true_implies, false_implies, not_true_eq_false, not_false_eq_true, am_ne_1_0, Int32.reduceLT, Int32.reduceLE]
    exact h
theorem am_op_jz_0 (I : am_I M st mk ex sd fd pn fk fa) (P : am_P pn pX pY) (ht : t < M) (hN : N ≤ 64) (hp : p < N) (hpc : pc t = nI p) (hop : co p = 7) (hs : sd t = 0) : am_Out C Z N M co ca (fun post => wpX_execute post (nI C, nI Z, nI N, nI M, co, ca, st, pc, mk, ex, sd, fd, pn, sk, fk, fa, fs, pX, ho, aq, rl) (nI t)) (fun post => wpY_exec post (nI C, nI Z, nI N, nI M, co, ca, st, pc, mk, ex, sd, fd, pn, sk, fk, fa, fs, pY, ho, aq, rl) (nI t)) := by
  have hM := I.1
  obtain ⟨st', pc', mk', ex', sd', fd', pn', sk', fk', fa', fs', pX', pY', ho', aq', rl', hI', hP', hX', hY'⟩ := am_raise (C := C) (Z := Z) (N := N) (co := co) (ca := ca) (pc := (upd pc t (nI (p + 1)))) (sk := sk) (fs := fs) (ho := ho) (aq := aq) (rl := rl) (e := (-1)) I P ht
  refine ⟨st', pc', mk', ex', sd', fd', pn', sk', fk', fa', fs', pX', pY', ho', aq', rl', hI', hP', fun post h => ?_, fun post h => ?_⟩
  · simp (disch := omega) only [wpX_execute, wpX_jumpIfZero, wpX_requireOperands, hpc, hop, am_ne_7_1, am_ne_7_2, am_ne_7_3, am_ne_7_4, am_ne_7_5, am_ne_7_6, hs, nI_clamp, pk_us, am_uu, nI_1, nI_pred, am_ip, nI_add, am_m8, am_m4, vp_in_nI, true_and, and_true, forall_eq, true_implies, false_implies, not_true_eq_false, not_false_eq_true, am_ne_1_0, Int32.reduceLT, Int32.reduceLE]
    exact hX' _ h
  · simp (disch := omega) only [wpY_exec, hpc, hop, am_ne_7_1, am_ne_7_2, am_ne_7_3, am_ne_7_4, am_ne_7_5, am_ne_7_6, hs, nI_clamp, pk_us, am_uu, nI_1, nI_pred, am_ip, nI_add, am_m8, am_m4, vp_in_nI, true_and, and_true, forall_eq, true_implies, false_implies, not_true_eq_false, not_false_eq_true, am_ne_1_0, Int32.reduceLT, Int32.reduceLE]
    exact hY' _ h
theorem am_op_jz_y (I : am_I M st mk ex sd fd pn fk fa) (P : am_P pn pX pY) (ht : t < M) (hN : N ≤ 64) (hp : p < N) (hpc : pc t = nI p) (hop : co p = 7) (hs : sd t = nI (d + 1)) (hd : d < 8) (hv : sk (t * 8 + d) = 0) : am_Out C Z N M co ca (fun post => wpX_execute post (nI C, nI Z, nI N, nI M, co, ca, st, pc, mk, ex, sd, fd, pn, sk, fk, fa, fs, pX, ho, aq, rl) (nI t)) (fun post => wpY_exec post (nI C, nI Z, nI N, nI M, co, ca, st, pc, mk, ex, sd, fd, pn, sk, fk, fa, fs, pY, ho, aq, rl) (nI t)) := by
  have hM := I.1
  have q0 : ¬ nI (d + 1) = 0 := fun q => by rw [am_eq0 (by omega)] at q; omega
  have q1 : 1 ≤ nI (d + 1) := nI_le (a := 1) (by omega) (by omega)
  refine ⟨st, (upd pc t (ca p)), mk, ex, (upd sd t (nI d)), fd, pn, sk, fk, fa, fs, pX, pY, ho, aq, rl, (am_I_sd (d := d) I ht (by omega)), P, fun post h => ?_, fun post h => ?_⟩
  · simp (disch := omega) only [wpX_execute, wpX_jumpIfZero, wpX_popTop, wpX_requireOperands, hpc, hop, am_ne_7_1, am_ne_7_2, am_ne_7_3, am_ne_7_4, am_ne_7_5, am_ne_7_6, hs, hv, q0, q1, nI_clamp, pk_us, am_uu, nI_1, nI_pred, am_ip, nI_add, am_m8, am_m4, vp_in_nI, true_and, and_true, forall_eq, true_implies, false_implies, not_true_eq_false, not_false_eq_true, am_ne_1_0, Int32.reduceLT, Int32.reduceLE]
    exact h
  · simp (disch := omega) only [wpY_exec, hpc, hop, am_ne_7_1, am_ne_7_2, am_ne_7_3, am_ne_7_4, am_ne_7_5, am_ne_7_6, hs, hv, q0, q1, nI_clamp, pk_us, am_uu, nI_1, nI_pred, am_ip, nI_add, am_m8, am_m4, vp_in_nI, true_and, and_true, forall_eq, true_implies, false_implies, not_true_eq_false, not_false_eq_true, am_ne_1_0, Int32.reduceLT, Int32.reduceLE]
    exact h
theorem am_op_jz_n (I : am_I M st mk ex sd fd pn fk fa) (P : am_P pn pX pY) (ht : t < M) (hN : N ≤ 64) (hp : p < N) (hpc : pc t = nI p) (hop : co p = 7) (hs : sd t = nI (d + 1)) (hd : d < 8) (hv : ¬ sk (t * 8 + d) = 0) : am_Out C Z N M co ca (fun post => wpX_execute post (nI C, nI Z, nI N, nI M, co, ca, st, pc, mk, ex, sd, fd, pn, sk, fk, fa, fs, pX, ho, aq, rl) (nI t)) (fun post => wpY_exec post (nI C, nI Z, nI N, nI M, co, ca, st, pc, mk, ex, sd, fd, pn, sk, fk, fa, fs, pY, ho, aq, rl) (nI t)) := by
  have hM := I.1
  have q0 : ¬ nI (d + 1) = 0 := fun q => by rw [am_eq0 (by omega)] at q; omega
  have q1 : 1 ≤ nI (d + 1) := nI_le (a := 1) (by omega) (by omega)
  refine ⟨st, (upd pc t (nI (p + 1))), mk, ex, (upd sd t (nI d)), fd, pn, sk, fk, fa, fs, pX, pY, ho, aq, rl, (am_I_sd (d := d) I ht (by omega)), P, fun post h => ?_, fun post h => ?_⟩
  · simp (disch := omega) only [wpX_execute, wpX_jumpIfZero, wpX_popTop, wpX_requireOperands, hpc, hop, am_ne_7_1, am_ne_7_2, am_ne_7_3, am_ne_7_4, am_ne_7_5, am_ne_7_6, hs, hv, q0, q1, nI_clamp, pk_us, am_uu, nI_1, nI_pred, am_ip, nI_add, am_m8, am_m4, vp_in_nI, true_and, and_true, forall_eq, true_implies, false_implies, not_true_eq_false, not_false_eq_true, am_ne_1_0, Int32.reduceLT, Int32.reduceLE]
    exact h
  · simp (disch := omega) only [wpY_exec, hpc, hop, am_ne_7_1, am_ne_7_2, am_ne_7_3, am_ne_7_4, am_ne_7_5, am_ne_7_6, hs, hv, q0, q1, nI_clamp, pk_us, am_uu, nI_1, nI_pred, am_ip, nI_add, am_m8, am_m4, vp_in_nI, true_and, and_true, forall_eq, true_implies, false_implies, not_true_eq_false, not_false_eq_true, am_ne_1_0, Int32.reduceLT, Int32.reduceLE]
    exact h
theorem am_op_thr_0 (I : am_I M st mk ex sd fd pn fk fa) (P : am_P pn pX pY) (ht : t < M) (hN : N ≤ 64) (hp : p < N) (hpc : pc t = nI p) (hop : co p = 9) (hs : sd t = 0) : am_Out C Z N M co ca (fun post => wpX_execute post (nI C, nI Z, nI N, nI M, co, ca, st, pc, mk, ex, sd, fd, pn, sk, fk, fa, fs, pX, ho, aq, rl) (nI t)) (fun post => wpY_exec post (nI C, nI Z, nI N, nI M, co, ca, st, pc, mk, ex, sd, fd, pn, sk, fk, fa, fs, pY, ho, aq, rl) (nI t)) := by
  have hM := I.1
  obtain ⟨st', pc', mk', ex', sd', fd', pn', sk', fk', fa', fs', pX', pY', ho', aq', rl', hI', hP', hX', hY'⟩ := am_raise (C := C) (Z := Z) (N := N) (co := co) (ca := ca) (pc := (upd pc t (nI (p + 1)))) (sk := sk) (fs := fs) (ho := ho) (aq := aq) (rl := rl) (e := (-1)) I P ht
  refine ⟨st', pc', mk', ex', sd', fd', pn', sk', fk', fa', fs', pX', pY', ho', aq', rl', hI', hP', fun post h => ?_, fun post h => ?_⟩
  · simp (disch := omega) only [wpX_execute, wpX_throwTop, wpX_requireOperands, hpc, hop, am_ne_9_1, am_ne_9_2, am_ne_9_3, am_ne_9_4, am_ne_9_5, am_ne_9_6, am_ne_9_7, am_ne_9_8, hs, nI_clamp, pk_us, am_uu, nI_1, nI_pred, am_ip, nI_add, am_m8, am_m4, vp_in_nI, true_and, and_true, forall_eq, true_implies, false_implies, not_true_eq_false, not_false_eq_true, am_ne_1_0, Int32.reduceLT, Int32.reduceLE]
    exact hX' _ h
  · simp (disch := omega) only [wpY_exec, hpc, hop, am_ne_9_1, am_ne_9_2, am_ne_9_3, am_ne_9_4, am_ne_9_5, am_ne_9_6, am_ne_9_7, am_ne_9_8, hs, nI_clamp, pk_us, am_uu, nI_1, nI_pred, am_ip, nI_add, am_m8, am_m4, vp_in_nI, true_and, and_true, forall_eq, true_implies, false_implies, not_true_eq_false, not_false_eq_true, am_ne_1_0, Int32.reduceLT, Int32.reduceLE]
    exact hY' _ h
theorem am_op_thr (I : am_I M st mk ex sd fd pn fk fa) (P : am_P pn pX pY) (ht : t < M) (hN : N ≤ 64) (hp : p < N) (hpc : pc t = nI p) (hop : co p = 9) (hs : sd t = nI (d + 1)) (hd : d < 8) : am_Out C Z N M co ca (fun post => wpX_execute post (nI C, nI Z, nI N, nI M, co, ca, st, pc, mk, ex, sd, fd, pn, sk, fk, fa, fs, pX, ho, aq, rl) (nI t)) (fun post => wpY_exec post (nI C, nI Z, nI N, nI M, co, ca, st, pc, mk, ex, sd, fd, pn, sk, fk, fa, fs, pY, ho, aq, rl) (nI t)) := by
  have hM := I.1
  have q0 : ¬ nI (d + 1) = 0 := fun q => by rw [am_eq0 (by omega)] at q; omega
  have q1 : 1 ≤ nI (d + 1) := nI_le (a := 1) (by omega) (by omega)
  obtain ⟨st', pc', mk', ex', sd', fd', pn', sk', fk', fa', fs', pX', pY', ho', aq', rl', hI', hP', hX', hY'⟩ := am_raise (C := C) (Z := Z) (N := N) (co := co) (ca := ca) (pc := (upd pc t (nI (p + 1)))) (sk := sk) (fs := fs) (ho := ho) (aq := aq) (rl := rl) (e := (sk (t * 8 + d))) (am_I_sd (d := d) I ht (by omega)) P ht
  refine ⟨st', pc', mk', ex', sd', fd', pn', sk', fk', fa', fs', pX', pY', ho', aq', rl', hI', hP', fun post h => ?_, fun post h => ?_⟩
  · simp (disch := omega) only [wpX_execute, wpX_throwTop, wpX_popTop, wpX_requireOperands, hpc, hop, am_ne_9_1, am_ne_9_2, am_ne_9_3, am_ne_9_4, am_ne_9_5, am_ne_9_6, am_ne_9_7, am_ne_9_8, hs, q0, q1, nI_clamp, pk_us, am_uu, nI_1, nI_pred, am_ip, nI_add, am_m8, am_m4, vp_in_nI, true_and, and_true, forall_eq, true_implies, false_implies, not_true_eq_false, not_false_eq_true, am_ne_1_0, Int32.reduceLT, Int32.reduceLE]
    exact hX' _ h
  · simp (disch := omega) only [wpY_exec, hpc, hop, am_ne_9_1, am_ne_9_2, am_ne_9_3, am_ne_9_4, am_ne_9_5, am_ne_9_6, am_ne_9_7, am_ne_9_8, hs, q0, q1, nI_clamp, pk_us, am_uu, nI_1, nI_pred, am_ip, nI_add, am_m8, am_m4, vp_in_nI, true_and, and_true, forall_eq, true_implies, false_implies, not_true_eq_false, not_false_eq_true, am_ne_1_0, Int32.reduceLT, Int32.reduceLE]
    exact hY' _ h
theorem am_op_tto_0 (I : am_I M st mk ex sd fd pn fk fa) (P : am_P pn pX pY) (ht : t < M) (hN : N ≤ 64) (hp : p < N) (hpc : pc t = nI p) (hop : co p = 10) (hs : sd t = 0) : am_Out C Z N M co ca (fun post => wpX_execute post (nI C, nI Z, nI N, nI M, co, ca, st, pc, mk, ex, sd, fd, pn, sk, fk, fa, fs, pX, ho, aq, rl) (nI t)) (fun post => wpY_exec post (nI C, nI Z, nI N, nI M, co, ca, st, pc, mk, ex, sd, fd, pn, sk, fk, fa, fs, pY, ho, aq, rl) (nI t)) := by
  have hM := I.1
  obtain ⟨st', pc', mk', ex', sd', fd', pn', sk', fk', fa', fs', pX', pY', ho', aq', rl', hI', hP', hX', hY'⟩ := am_raise (C := C) (Z := Z) (N := N) (co := co) (ca := ca) (pc := (upd pc t (nI (p + 1)))) (sk := sk) (fs := fs) (ho := ho) (aq := aq) (rl := rl) (e := (-1)) I P ht
  refine ⟨st', pc', mk', ex', sd', fd', pn', sk', fk', fa', fs', pX', pY', ho', aq', rl', hI', hP', fun post h => ?_, fun post h => ?_⟩
  · simp (disch := omega) only [wpX_execute, wpX_throwTopTo, wpX_popTop, wpX_requireOperands, hpc, hop, am_ne_10_1, am_ne_10_2, am_ne_10_3, am_ne_10_4, am_ne_10_5, am_ne_10_6, am_ne_10_7, am_ne_10_8, am_ne_10_9, hs, nI_clamp, pk_us, am_uu, nI_1, nI_pred, am_ip, nI_add, am_m8, am_m4, vp_in_nI, true_and, and_true, forall_eq, true_implies, false_implies, not_true_eq_false, not_false_eq_true, am_ne_1_0, Int32.reduceLT, Int32.reduceLE]
    exact hX' _ h
  · simp (disch := omega) only [wpY_exec, hpc, hop, am_ne_10_1, am_ne_10_2, am_ne_10_3, am_ne_10_4, am_ne_10_5, am_ne_10_6, am_ne_10_7, am_ne_10_8, am_ne_10_9, hs, nI_clamp, pk_us, am_uu, nI_1, nI_pred, am_ip, nI_add, am_m8, am_m4, vp_in_nI, true_and, and_true, forall_eq, true_implies, false_implies, not_true_eq_false, not_false_eq_true, am_ne_1_0, Int32.reduceLT, Int32.reduceLE]
    exact hY' _ h
theorem am_op_tto_me (I : am_I M st mk ex sd fd pn fk fa) (P : am_P pn pX pY) (ht : t < M) (hN : N ≤ 64) (hp : p < N) (hpc : pc t = nI p) (hop : co p = 10) (hs : sd t = nI (d + 1)) (hd : d < 8) (ha : ca p = nI t) : am_Out C Z N M co ca (fun post => wpX_execute post (nI C, nI Z, nI N, nI M, co, ca, st, pc, mk, ex, sd, fd, pn, sk, fk, fa, fs, pX, ho, aq, rl) (nI t)) (fun post => wpY_exec post (nI C, nI Z, nI N, nI M, co, ca, st, pc, mk, ex, sd, fd, pn, sk, fk, fa, fs, pY, ho, aq, rl) (nI t)) := by
  have hM := I.1
  have q0 : ¬ nI (d + 1) = 0 := fun q => by rw [am_eq0 (by omega)] at q; omega
  have q1 : 1 ≤ nI (d + 1) := nI_le (a := 1) (by omega) (by omega)
  obtain ⟨st', pc', mk', ex', sd', fd', pn', sk', fk', fa', fs', pX', pY', ho', aq', rl', hI', hP', hX', hY'⟩ := am_raise (C := C) (Z := Z) (N := N) (co := co) (ca := ca) (pc := (upd pc t (nI (p + 1)))) (sk := sk) (fs := fs) (ho := ho) (aq := aq) (rl := rl) (e := (sk (t * 8 + d))) (am_I_sd (d := d) I ht (by omega)) P ht
  refine ⟨st', pc', mk', ex', sd', fd', pn', sk', fk', fa', fs', pX', pY', ho', aq', rl', hI', hP', fun post h => ?_, fun post h => ?_⟩
  · simp (disch := omega) only [wpX_execute, wpX_throwTopTo, wpX_popTop, wpX_requireOperands, hpc, hop, am_ne_10_1, am_ne_10_2, am_ne_10_3, am_ne_10_4, am_ne_10_5, am_ne_10_6, am_ne_10_7, am_ne_10_8, am_ne_10_9, hs, ha, q0, q1, nI_clamp, pk_us, am_uu, nI_1, nI_pred, am_ip, nI_add, am_m8, am_m4, vp_in_nI, true_and, and_true, forall_eq, true_implies, false_implies, not_true_eq_false, not_false_eq_true, am_ne_1_0, Int32.reduceLT, Int32.reduceLE]
    exact hX' _ h
  · simp (disch := omega) only [wpY_exec, hpc, hop, am_ne_10_1, am_ne_10_2, am_ne_10_3, am_ne_10_4, am_ne_10_5, am_ne_10_6, am_ne_10_7, am_ne_10_8, am_ne_10_9, hs, ha, q0, q1, nI_clamp, pk_us, am_uu, nI_1, nI_pred, am_ip, nI_add, am_m8, am_m4, vp_in_nI, true_and, and_true, forall_eq, true_implies, false_implies, not_true_eq_false, not_false_eq_true, am_ne_1_0, Int32.reduceLT, Int32.reduceLE]
    exact hY' _ h
theorem am_op_tto_neg (I : am_I M st mk ex sd fd pn fk fa) (P : am_P pn pX pY) (ht : t < M) (hN : N ≤ 64) (hp : p < N) (hpc : pc t = nI p) (hop : co p = 10) (hs : sd t = nI (d + 1)) (hd : d < 8) (ha : ca p < 0) : am_Out C Z N M co ca (fun post => wpX_execute post (nI C, nI Z, nI N, nI M, co, ca, st, pc, mk, ex, sd, fd, pn, sk, fk, fa, fs, pX, ho, aq, rl) (nI t)) (fun post => wpY_exec post (nI C, nI Z, nI N, nI M, co, ca, st, pc, mk, ex, sd, fd, pn, sk, fk, fa, fs, pY, ho, aq, rl) (nI t)) := by
  have hM := I.1
  have q0 : ¬ nI (d + 1) = 0 := fun q => by rw [am_eq0 (by omega)] at q; omega
  have q1 : 1 ≤ nI (d + 1) := nI_le (a := 1) (by omega) (by omega)
  have qn : ¬ ca p = nI t := fun q => by rw [q] at ha; exact nI_pos (by omega) ha
  have qz : ¬ 0 ≤ ca p := Int32.not_le.mpr ha
  refine ⟨st, (upd pc t (nI (p + 1))), mk, ex, (upd sd t (nI d)), fd, pn, sk, fk, fa, fs, pX, pY, ho, aq, rl, (am_I_sd (d := d) I ht (by omega)), P, fun post h => ?_, fun post h => ?_⟩
  · simp (disch := omega) only [wpX_execute, wpX_throwTopTo, wpX_popTop, wpX_requireOperands, wpX_isAlive, wpX_isThread, wpX_appendPending, hpc, hop, am_ne_10_1, am_ne_10_2, am_ne_10_3, am_ne_10_4, am_ne_10_5, am_ne_10_6, am_ne_10_7, am_ne_10_8, am_ne_10_9, hs, ha, qn, qz, q0, q1, nI_clamp, pk_us, am_uu, nI_1, nI_pred, am_ip, nI_add, am_m8, am_m4, vp_in_nI, true_and, and_true, forall_eq, true_implies, false_implies, not_true_eq_false, not_false_eq_true, am_ne_1_0, Int32.reduceLT, Int32.reduceLE]
    exact h
  · simp (disch := omega) only [wpY_exec, hpc, hop, am_ne_10_1, am_ne_10_2, am_ne_10_3, am_ne_10_4, am_ne_10_5, am_ne_10_6, am_ne_10_7, am_ne_10_8, am_ne_10_9, hs, ha, qn, qz, q0, q1, nI_clamp, pk_us, am_uu, nI_1, nI_pred, am_ip, nI_add, am_m8, am_m4, vp_in_nI, true_and, and_true, forall_eq, true_implies, false_implies, not_true_eq_false, not_false_eq_true, am_ne_1_0, Int32.reduceLT, Int32.reduceLE]
    exact h
theorem am_op_tto_big (I : am_I M st mk ex sd fd pn fk fa) (P : am_P pn pX pY) (ht : t < M) (hN : N ≤ 64) (hp : p < N) (hpc : pc t = nI p) (hop : co p = 10) (hs : sd t = nI (d + 1)) (hd : d < 8) (hz : ¬ ca p < 0) (ha : nI M ≤ ca p) : am_Out C Z N M co ca (fun post => wpX_execute post (nI C, nI Z, nI N, nI M, co, ca, st, pc, mk, ex, sd, fd, pn, sk, fk, fa, fs, pX, ho, aq, rl) (nI t)) (fun post => wpY_exec post (nI C, nI Z, nI N, nI M, co, ca, st, pc, mk, ex, sd, fd, pn, sk, fk, fa, fs, pY, ho, aq, rl) (nI t)) := by
  have hM := I.1
  have q0 : ¬ nI (d + 1) = 0 := fun q => by rw [am_eq0 (by omega)] at q; omega
  have q1 : 1 ≤ nI (d + 1) := nI_le (a := 1) (by omega) (by omega)
  have qn : ¬ ca p = nI t := fun q => by rw [q] at ha; exact nI_ge ht (by omega) ha
  have qz : ¬ ca p < nI M := Int32.not_lt.mpr ha
  have qy : 0 ≤ ca p := Int32.not_lt.mp hz
  refine ⟨st, (upd pc t (nI (p + 1))), mk, ex, (upd sd t (nI d)), fd, pn, sk, fk, fa, fs, pX, pY, ho, aq, rl, (am_I_sd (d := d) I ht (by omega)), P, fun post h => ?_, fun post h => ?_⟩
  · simp (disch := omega) only [wpX_execute, wpX_throwTopTo, wpX_popTop, wpX_requireOperands, wpX_isAlive, wpX_isThread, wpX_appendPending, hpc, hop, am_ne_10_1, am_ne_10_2, am_ne_10_3, am_ne_10_4, am_ne_10_5, am_ne_10_6, am_ne_10_7, am_ne_10_8, am_ne_10_9, hs, ha, hz, qn, qz, qy, q0, q1, nI_clamp, pk_us, am_uu, nI_1, nI_pred, am_ip, nI_add, am_m8, am_m4, vp_in_nI, true_and, and_true, forall_eq, true_implies, false_implies, not_true_eq_false, not_false_eq_true, am_ne_1_0, Int32.reduceLT, Int32.reduceLE]
    exact h
  · simp (disch := omega) only [wpY_exec, hpc, hop, am_ne_10_1, am_ne_10_2, am_ne_10_3, am_ne_10_4, am_ne_10_5, am_ne_10_6, am_ne_10_7, am_ne_10_8, am_ne_10_9, hs, ha, hz, qn, qz, qy, q0, q1, nI_clamp, pk_us, am_uu, nI_1, nI_pred, am_ip, nI_add, am_m8, am_m4, vp_in_nI, true_and, and_true, forall_eq, true_implies, false_implies, not_true_eq_false, not_false_eq_true, am_ne_1_0, Int32.reduceLT, Int32.reduceLE]
    exact h
theorem am_op_tto_dead (I : am_I M st mk ex sd fd pn fk fa) (P : am_P pn pX pY) (ht : t < M) (hN : N ≤ 64) (hp : p < N) (hpc : pc t = nI p) (hop : co p = 10) (hs : sd t = nI (d + 1)) (hd : d < 8) {u c : Nat} (hu : u < M) (hut : u ≠ t) (ha : ca p = nI u) (hx : ¬ st u = 1) : am_Out C Z N M co ca (fun post => wpX_execute post (nI C, nI Z, nI N, nI M, co, ca, st, pc, mk, ex, sd, fd, pn, sk, fk, fa, fs, pX, ho, aq, rl) (nI t)) (fun post => wpY_exec post (nI C, nI Z, nI N, nI M, co, ca, st, pc, mk, ex, sd, fd, pn, sk, fk, fa, fs, pY, ho, aq, rl) (nI t)) := by
  have hM := I.1
  have q0 : ¬ nI (d + 1) = 0 := fun q => by rw [am_eq0 (by omega)] at q; omega
  have q1 : 1 ≤ nI (d + 1) := nI_le (a := 1) (by omega) (by omega)
  have qn : ¬ nI u = nI t := fun q => hut ((nI_eq (by omega) (by omega)).mp q)
  have qy : ¬ nI u < 0 := nI_pos (by omega)
  have qx : 0 ≤ nI u := nI_pos' (by omega)
  have qm : nI u < nI M := nI_lt hu (by omega)
  have qk : ¬ nI M ≤ nI u := nI_ge hu (by omega)
  refine ⟨st, (upd pc t (nI (p + 1))), mk, ex, (upd sd t (nI d)), fd, pn, sk, fk, fa, fs, pX, pY, ho, aq, rl, (am_I_sd (d := d) I ht (by omega)), P, fun post h => ?_, fun post h => ?_⟩
  · simp (disch := omega) only [wpX_execute, wpX_throwTopTo, wpX_popTop, wpX_requireOperands, wpX_isAlive, wpX_isThread, wpX_appendPending, hpc, hop, am_ne_10_1, am_ne_10_2, am_ne_10_3, am_ne_10_4, am_ne_10_5, am_ne_10_6, am_ne_10_7, am_ne_10_8, am_ne_10_9, hs, ha, qn, qy, qx, qm, qk, q0, q1, hx, nI_clamp, pk_us, am_uu, nI_1, nI_pred, am_ip, nI_add, am_m8, am_m4, vp_in_nI, true_and, and_true, forall_eq, true_implies, false_implies, not_true_eq_false, not_false_eq_true, am_ne_1_0, Int32.reduceLT, Int32.reduceLE]
    exact h
  · simp (disch := omega) only [wpY_exec, hpc, hop, am_ne_10_1, am_ne_10_2, am_ne_10_3, am_ne_10_4, am_ne_10_5, am_ne_10_6, am_ne_10_7, am_ne_10_8, am_ne_10_9, hs, ha, qn, qy, qx, qm, qk, q0, q1, hx, nI_clamp, pk_us, am_uu, nI_1, nI_pred, am_ip, nI_add, am_m8, am_m4, vp_in_nI, true_and, and_true, forall_eq, true_implies, false_implies, not_true_eq_false, not_false_eq_true, am_ne_1_0, Int32.reduceLT, Int32.reduceLE]
    exact h
theorem am_op_tto_full (I : am_I M st mk ex sd fd pn fk fa) (P : am_P pn pX pY) (ht : t < M) (hN : N ≤ 64) (hp : p < N) (hpc : pc t = nI p) (hop : co p = 10) (hs : sd t = nI (d + 1)) (hd : d < 8) {u c : Nat} (hu : u < M) (hut : u ≠ t) (ha : ca p = nI u) (hx : st u = 1) (hc : pn u = 4) : am_Out C Z N M co ca (fun post => wpX_execute post (nI C, nI Z, nI N, nI M, co, ca, st, pc, mk, ex, sd, fd, pn, sk, fk, fa, fs, pX, ho, aq, rl) (nI t)) (fun post => wpY_exec post (nI C, nI Z, nI N, nI M, co, ca, st, pc, mk, ex, sd, fd, pn, sk, fk, fa, fs, pY, ho, aq, rl) (nI t)) := by
  have hM := I.1
  have q0 : ¬ nI (d + 1) = 0 := fun q => by rw [am_eq0 (by omega)] at q; omega
  have q1 : 1 ≤ nI (d + 1) := nI_le (a := 1) (by omega) (by omega)
  have qn : ¬ nI u = nI t := fun q => hut ((nI_eq (by omega) (by omega)).mp q)
  have qy : ¬ nI u < 0 := nI_pos (by omega)
  have qx : 0 ≤ nI u := nI_pos' (by omega)
  have qm : nI u < nI M := nI_lt hu (by omega)
  have qk : ¬ nI M ≤ nI u := nI_ge hu (by omega)
  refine ⟨st, (upd pc t (nI (p + 1))), mk, ex, (upd sd t (nI d)), fd, pn, sk, fk, fa, fs, pX, pY, ho, aq, rl, (am_I_sd (d := d) I ht (by omega)), P, fun post h => ?_, fun post h => ?_⟩
  · simp (disch := omega) only [wpX_execute, wpX_throwTopTo, wpX_popTop, wpX_requireOperands, wpX_isAlive, wpX_isThread, wpX_appendPending, hpc, hop, am_ne_10_1, am_ne_10_2, am_ne_10_3, am_ne_10_4, am_ne_10_5, am_ne_10_6, am_ne_10_7, am_ne_10_8, am_ne_10_9, hs, ha, qn, qy, qx, qm, qk, q0, q1, hx, hc, nI_clamp, pk_us, am_uu, nI_1, nI_pred, am_ip, nI_add, am_m8, am_m4, vp_in_nI, true_and, and_true, forall_eq, true_implies, false_implies, not_true_eq_false, not_false_eq_true, am_ne_1_0, Int32.reduceLT, Int32.reduceLE]
    exact h
  · simp (disch := omega) only [wpY_exec, hpc, hop, am_ne_10_1, am_ne_10_2, am_ne_10_3, am_ne_10_4, am_ne_10_5, am_ne_10_6, am_ne_10_7, am_ne_10_8, am_ne_10_9, hs, ha, qn, qy, qx, qm, qk, q0, q1, hx, hc, nI_clamp, pk_us, am_uu, nI_1, nI_pred, am_ip, nI_add, am_m8, am_m4, vp_in_nI, true_and, and_true, forall_eq, true_implies, false_implies, not_true_eq_false, not_false_eq_true, am_ne_1_0, Int32.reduceLT, Int32.reduceLE]
    exact h
theorem am_op_tto (I : am_I M st mk ex sd fd pn fk fa) (P : am_P pn pX pY) (ht : t < M) (hN : N ≤ 64) (hp : p < N) (hpc : pc t = nI p) (hop : co p = 10) (hs : sd t = nI (d + 1)) (hd : d < 8) {u c : Nat} (hu : u < M) (hut : u ≠ t) (ha : ca p = nI u) (hx : st u = 1) (hc : pn u = nI c) (hc4 : c < 4) : am_Out C Z N M co ca (fun post => wpX_execute post (nI C, nI Z, nI N, nI M, co, ca, st, pc, mk, ex, sd, fd, pn, sk, fk, fa, fs, pX, ho, aq, rl) (nI t)) (fun post => wpY_exec post (nI C, nI Z, nI N, nI M, co, ca, st, pc, mk, ex, sd, fd, pn, sk, fk, fa, fs, pY, ho, aq, rl) (nI t)) := by
  have hM := I.1
  have q0 : ¬ nI (d + 1) = 0 := fun q => by rw [am_eq0 (by omega)] at q; omega
  have q1 : 1 ≤ nI (d + 1) := nI_le (a := 1) (by omega) (by omega)
  have qn : ¬ nI u = nI t := fun q => hut ((nI_eq (by omega) (by omega)).mp q)
  have qy : ¬ nI u < 0 := nI_pos (by omega)
  have qx : 0 ≤ nI u := nI_pos' (by omega)
  have qm : nI u < nI M := nI_lt hu (by omega)
  have qk : ¬ nI M ≤ nI u := nI_ge hu (by omega)
  have q4 : ¬ nI (c) = 4 := fun q => by rw [am_eq4 (by omega)] at q; omega
  have q5 : ¬ 4 ≤ nI c := nI_ge (b := 4) hc4 (by omega)
  have q6 : nI c < 4 := nI_lt (b := 4) hc4 (by omega)
  refine ⟨st, (upd pc t (nI (p + 1))), mk, ex, (upd sd t (nI d)), fd, (upd pn u (nI (c + 1))), sk, fk, fa, fs, (upd pX (u * 4 + c) (sk (t * 8 + d))), (upd pY (u * 4 + c) (sk (t * 8 + d))), ho, aq, rl, (am_I_pn (d := c + 1) (am_I_sd (d := d) I ht (by omega)) hu (by omega)), (am_P_app P (by omega) hc4 hc), fun post h => ?_, fun post h => ?_⟩
  · simp (disch := omega) only [wpX_execute, wpX_throwTopTo, wpX_popTop, wpX_requireOperands, wpX_isAlive, wpX_isThread, wpX_appendPending, hpc, hop, am_ne_10_1, am_ne_10_2, am_ne_10_3, am_ne_10_4, am_ne_10_5, am_ne_10_6, am_ne_10_7, am_ne_10_8, am_ne_10_9, hs, ha, qn, qy, qx, qm, qk, q0, q1, hx, hc, q4, q5, q6, nI_clamp, pk_us, am_uu, nI_1, nI_pred, am_ip, nI_add, am_m8, am_m4, vp_in_nI, true_and, and_true, forall_eq, true_implies, false_implies, not_true_eq_false, not_false_eq_true, am_ne_1_0, Int32.reduceLT, Int32.reduceLE]
    exact h
  · simp (disch := omega) only [wpY_exec, hpc, hop, am_ne_10_1, am_ne_10_2, am_ne_10_3, am_ne_10_4, am_ne_10_5, am_ne_10_6, am_ne_10_7, am_ne_10_8, am_ne_10_9, hs, ha, qn, qy, qx, qm, qk, q0, q1, hx, hc, q4, q5, q6, nI_clamp, pk_us, am_uu, nI_1, nI_pred, am_ip, nI_add, am_m8, am_m4, vp_in_nI, true_and, and_true, forall_eq, true_implies, false_implies, not_true_eq_false, not_false_eq_true, am_ne_1_0, Int32.reduceLT, Int32.reduceLE]
    exact h
theorem am_op_catch_full (I : am_I M st mk ex sd fd pn fk fa) (P : am_P pn pX pY) (ht : t < M) (hN : N ≤ 64) (hp : p < N) (hpc : pc t = nI p) (hop : co p = 11) (hf : fd t = 8) : am_Out C Z N M co ca (fun post => wpX_execute post (nI C, nI Z, nI N, nI M, co, ca, st, pc, mk, ex, sd, fd, pn, sk, fk, fa, fs, pX, ho, aq, rl) (nI t)) (fun post => wpY_exec post (nI C, nI Z, nI N, nI M, co, ca, st, pc, mk, ex, sd, fd, pn, sk, fk, fa, fs, pY, ho, aq, rl) (nI t)) := by
  have hM := I.1
  obtain ⟨st', pc', mk', ex', sd', fd', pn', sk', fk', fa', fs', pX', pY', ho', aq', rl', hI', hP', hX', hY'⟩ := am_raise (C := C) (Z := Z) (N := N) (co := co) (ca := ca) (pc := (upd pc t (nI (p + 1)))) (sk := sk) (fs := fs) (ho := ho) (aq := aq) (rl := rl) (e := (-3)) I P ht
  refine ⟨st', pc', mk', ex', sd', fd', pn', sk', fk', fa', fs', pX', pY', ho', aq', rl', hI', hP', fun post h => ?_, fun post h => ?_⟩
  · simp (disch := omega) only [wpX_execute, wpX_pushFrame, hpc, hop, am_ne_11_1, am_ne_11_2, am_ne_11_3, am_ne_11_4, am_ne_11_5, am_ne_11_6, am_ne_11_7, am_ne_11_8, am_ne_11_9, am_ne_11_10, hf, nI_clamp, pk_us, am_uu, nI_1, nI_pred, am_ip, nI_add, am_m8, am_m4, vp_in_nI, true_and, and_true, forall_eq, true_implies, false_implies, not_true_eq_false, not_false_eq_true, am_ne_1_0, Int32.reduceLT, Int32.reduceLE]
    exact hX' _ h
  · simp (disch := omega) only [wpY_exec, hpc, hop, am_ne_11_1, am_ne_11_2, am_ne_11_3, am_ne_11_4, am_ne_11_5, am_ne_11_6, am_ne_11_7, am_ne_11_8, am_ne_11_9, am_ne_11_10, hf, nI_clamp, pk_us, am_uu, nI_1, nI_pred, am_ip, nI_add, am_m8, am_m4, vp_in_nI, true_and, and_true, forall_eq, true_implies, false_implies, not_true_eq_false, not_false_eq_true, am_ne_1_0, Int32.reduceLT, Int32.reduceLE]
    exact hY' _ h
theorem am_op_catch (I : am_I M st mk ex sd fd pn fk fa) (P : am_P pn pX pY) (ht : t < M) (hN : N ≤ 64) (hp : p < N) (hpc : pc t = nI p) (hop : co p = 11) (hf : fd t = nI d) (hd : d < 8) : am_Out C Z N M co ca (fun post => wpX_execute post (nI C, nI Z, nI N, nI M, co, ca, st, pc, mk, ex, sd, fd, pn, sk, fk, fa, fs, pX, ho, aq, rl) (nI t)) (fun post => wpY_exec post (nI C, nI Z, nI N, nI M, co, ca, st, pc, mk, ex, sd, fd, pn, sk, fk, fa, fs, pY, ho, aq, rl) (nI t)) := by
  have hM := I.1
  have q8 : ¬ nI (d) = 8 := fun q => by rw [am_eq8 (by omega)] at q; omega
  refine ⟨st, (upd pc t (nI (p + 1))), mk, ex, sd, (upd fd t (nI (d + 1))), pn, sk, (upd fk (t * 8 + d) 1), (upd fa (t * 8 + d) (ca p)), (upd fs (t * 8 + d) (mk t)), pX, pY, ho, aq, rl, (am_I_fr (am_I_fd (d := d + 1) I ht (by omega)) (fun q => absurd q (by decide))), P, fun post h => ?_, fun post h => ?_⟩
  · simp (disch := omega) only [wpX_execute, wpX_pushFrame, hpc, hop, am_ne_11_1, am_ne_11_2, am_ne_11_3, am_ne_11_4, am_ne_11_5, am_ne_11_6, am_ne_11_7, am_ne_11_8, am_ne_11_9, am_ne_11_10, hf, q8, nI_clamp, pk_us, am_uu, nI_1, nI_pred, am_ip, nI_add, am_m8, am_m4, vp_in_nI, true_and, and_true, forall_eq, true_implies, false_implies, not_true_eq_false, not_false_eq_true, am_ne_1_0, Int32.reduceLT, Int32.reduceLE]
    exact h
  · simp (disch := omega) only [wpY_exec, wpY_pushFrame, hpc, hop, am_ne_11_1, am_ne_11_2, am_ne_11_3, am_ne_11_4, am_ne_11_5, am_ne_11_6, am_ne_11_7, am_ne_11_8, am_ne_11_9, am_ne_11_10, hf, q8, nI_clamp, pk_us, am_uu, nI_1, nI_pred, am_ip, nI_add, am_m8, am_m4, vp_in_nI, true_and, and_true, forall_eq, true_implies, false_implies, not_true_eq_false, not_false_eq_true, am_ne_1_0, Int32.reduceLT, Int32.reduceLE]
    exact h
theorem am_op_mask_neg_full (I : am_I M st mk ex sd fd pn fk fa) (P : am_P pn pX pY) (ht : t < M) (hN : N ≤ 64) (hp : p < N) (hpc : pc t = nI p) (hop : co p = 12) (ha : ca p < 0) (hf : fd t = 8) : am_Out C Z N M co ca (fun post => wpX_execute post (nI C, nI Z, nI N, nI M, co, ca, st, pc, mk, ex, sd, fd, pn, sk, fk, fa, fs, pX, ho, aq, rl) (nI t)) (fun post => wpY_exec post (nI C, nI Z, nI N, nI M, co, ca, st, pc, mk, ex, sd, fd, pn, sk, fk, fa, fs, pY, ho, aq, rl) (nI t)) := by
  have hM := I.1
  have qa : ¬ 0 ≤ ca p := Int32.not_le.mpr ha
  obtain ⟨st', pc', mk', ex', sd', fd', pn', sk', fk', fa', fs', pX', pY', ho', aq', rl', hI', hP', hX', hY'⟩ := am_raise (C := C) (Z := Z) (N := N) (co := co) (ca := ca) (pc := (upd pc t (nI (p + 1)))) (sk := sk) (fs := fs) (ho := ho) (aq := aq) (rl := rl) (e := (-3)) I P ht
  refine ⟨st', pc', mk', ex', sd', fd', pn', sk', fk', fa', fs', pX', pY', ho', aq', rl', hI', hP', fun post h => ?_, fun post h => ?_⟩
  · simp (disch := omega) only [wpX_execute, wpX_enterMask, wpX_clamp, wpX_pushFrame, hpc, hop, am_ne_12_1, am_ne_12_2, am_ne_12_3, am_ne_12_4, am_ne_12_5, am_ne_12_6, am_ne_12_7, am_ne_12_8, am_ne_12_9, am_ne_12_10, am_ne_12_11, ha, qa, hf, nI_clamp, pk_us, am_uu, nI_1, nI_pred, am_ip, nI_add, am_m8, am_m4, vp_in_nI, true_and, and_true, forall_eq, true_implies, false_implies, not_true_eq_false, not_false_eq_true, am_ne_1_0, Int32.reduceLT, Int32.reduceLE]
    exact hX' _ h
  · simp (disch := omega) only [wpY_exec, wY_exec_597, hpc, hop, am_ne_12_1, am_ne_12_2, am_ne_12_3, am_ne_12_4, am_ne_12_5, am_ne_12_6, am_ne_12_7, am_ne_12_8, am_ne_12_9, am_ne_12_10, am_ne_12_11, ha, qa, hf, nI_clamp, pk_us, am_uu, nI_1, nI_pred, am_ip, nI_add, am_m8, am_m4, vp_in_nI, true_and, and_true, forall_eq, true_implies, false_implies, not_true_eq_false, not_false_eq_true, am_ne_1_0, Int32.reduceLT, Int32.reduceLE]
    exact hY' _ h
theorem am_op_mask_neg (I : am_I M st mk ex sd fd pn fk fa) (P : am_P pn pX pY) (ht : t < M) (hN : N ≤ 64) (hp : p < N) (hpc : pc t = nI p) (hop : co p = 12) (ha : ca p < 0) (hf : fd t = nI d) (hd : d < 8) : am_Out C Z N M co ca (fun post => wpX_execute post (nI C, nI Z, nI N, nI M, co, ca, st, pc, mk, ex, sd, fd, pn, sk, fk, fa, fs, pX, ho, aq, rl) (nI t)) (fun post => wpY_exec post (nI C, nI Z, nI N, nI M, co, ca, st, pc, mk, ex, sd, fd, pn, sk, fk, fa, fs, pY, ho, aq, rl) (nI t)) := by
  have hM := I.1
  have qa : ¬ 0 ≤ ca p := Int32.not_le.mpr ha
  have q8 : ¬ nI (d) = 8 := fun q => by rw [am_eq8 (by omega)] at q; omega
  refine ⟨st, (upd pc t (nI (p + 1))), (upd mk t 0), ex, sd, (upd fd t (nI (d + 1))), pn, sk, (upd fk (t * 8 + d) 2), (upd fa (t * 8 + d) 0), (upd fs (t * 8 + d) (mk t)), pX, pY, ho, aq, rl, (am_I_mk (am_I_fr (am_I_fd (d := d + 1) I ht (by omega)) (fun q => absurd q (by decide))) ht), P, fun post h => ?_, fun post h => ?_⟩
  · simp (disch := omega) only [wpX_execute, wpX_enterMask, wpX_clamp, wpX_pushFrame, hpc, hop, am_ne_12_1, am_ne_12_2, am_ne_12_3, am_ne_12_4, am_ne_12_5, am_ne_12_6, am_ne_12_7, am_ne_12_8, am_ne_12_9, am_ne_12_10, am_ne_12_11, ha, qa, hf, q8, nI_clamp, pk_us, am_uu, nI_1, nI_pred, am_ip, nI_add, am_m8, am_m4, vp_in_nI, true_and, and_true, forall_eq, true_implies, false_implies, not_true_eq_false, not_false_eq_true, am_ne_1_0, Int32.reduceLT, Int32.reduceLE]
    exact h
  · simp (disch := omega) only [wpY_exec, wpY_pushFrame, wY_exec_597, hpc, hop, am_ne_12_1, am_ne_12_2, am_ne_12_3, am_ne_12_4, am_ne_12_5, am_ne_12_6, am_ne_12_7, am_ne_12_8, am_ne_12_9, am_ne_12_10, am_ne_12_11, ha, qa, hf, q8, nI_clamp, pk_us, am_uu, nI_1, nI_pred, am_ip, nI_add, am_m8, am_m4, vp_in_nI, true_and, and_true, forall_eq, true_implies, false_implies, not_true_eq_false, not_false_eq_true, am_ne_1_0, Int32.reduceLT, Int32.reduceLE]
    exact h
theorem am_op_mask_big_full (I : am_I M st mk ex sd fd pn fk fa) (P : am_P pn pX pY) (ht : t < M) (hN : N ≤ 64) (hp : p < N) (hpc : pc t = nI p) (hop : co p = 12) (hz : ¬ ca p < 0) (ha : 2 < ca p) (hf : fd t = 8) : am_Out C Z N M co ca (fun post => wpX_execute post (nI C, nI Z, nI N, nI M, co, ca, st, pc, mk, ex, sd, fd, pn, sk, fk, fa, fs, pX, ho, aq, rl) (nI t)) (fun post => wpY_exec post (nI C, nI Z, nI N, nI M, co, ca, st, pc, mk, ex, sd, fd, pn, sk, fk, fa, fs, pY, ho, aq, rl) (nI t)) := by
  have hM := I.1
  have qa : ¬ ca p ≤ 2 := Int32.not_le.mpr ha
  have qb : 0 ≤ ca p := Int32.not_lt.mp hz
  obtain ⟨st', pc', mk', ex', sd', fd', pn', sk', fk', fa', fs', pX', pY', ho', aq', rl', hI', hP', hX', hY'⟩ := am_raise (C := C) (Z := Z) (N := N) (co := co) (ca := ca) (pc := (upd pc t (nI (p + 1)))) (sk := sk) (fs := fs) (ho := ho) (aq := aq) (rl := rl) (e := (-3)) I P ht
  refine ⟨st', pc', mk', ex', sd', fd', pn', sk', fk', fa', fs', pX', pY', ho', aq', rl', hI', hP', fun post h => ?_, fun post h => ?_⟩
  · simp (disch := omega) only [wpX_execute, wpX_enterMask, wpX_clamp, wpX_pushFrame, hpc, hop, am_ne_12_1, am_ne_12_2, am_ne_12_3, am_ne_12_4, am_ne_12_5, am_ne_12_6, am_ne_12_7, am_ne_12_8, am_ne_12_9, am_ne_12_10, am_ne_12_11, ha, hz, qa, qb, hf, nI_clamp, pk_us, am_uu, nI_1, nI_pred, am_ip, nI_add, am_m8, am_m4, vp_in_nI, true_and, and_true, forall_eq, true_implies, false_implies, not_true_eq_false, not_false_eq_true, am_ne_1_0, Int32.reduceLT, Int32.reduceLE]
    exact hX' _ h
  · simp (disch := omega) only [wpY_exec, wY_exec_597, hpc, hop, am_ne_12_1, am_ne_12_2, am_ne_12_3, am_ne_12_4, am_ne_12_5, am_ne_12_6, am_ne_12_7, am_ne_12_8, am_ne_12_9, am_ne_12_10, am_ne_12_11, ha, hz, qa, qb, hf, nI_clamp, pk_us, am_uu, nI_1, nI_pred, am_ip, nI_add, am_m8, am_m4, vp_in_nI, true_and, and_true, forall_eq, true_implies, false_implies, not_true_eq_false, not_false_eq_true, am_ne_1_0, Int32.reduceLT, Int32.reduceLE]
    exact hY' _ h
theorem am_op_mask_big (I : am_I M st mk ex sd fd pn fk fa) (P : am_P pn pX pY) (ht : t < M) (hN : N ≤ 64) (hp : p < N) (hpc : pc t = nI p) (hop : co p = 12) (hz : ¬ ca p < 0) (ha : 2 < ca p) (hf : fd t = nI d) (hd : d < 8) : am_Out C Z N M co ca (fun post => wpX_execute post (nI C, nI Z, nI N, nI M, co, ca, st, pc, mk, ex, sd, fd, pn, sk, fk, fa, fs, pX, ho, aq, rl) (nI t)) (fun post => wpY_exec post (nI C, nI Z, nI N, nI M, co, ca, st, pc, mk, ex, sd, fd, pn, sk, fk, fa, fs, pY, ho, aq, rl) (nI t)) := by
  have hM := I.1
  have qa : ¬ ca p ≤ 2 := Int32.not_le.mpr ha
  have qb : 0 ≤ ca p := Int32.not_lt.mp hz
  have q8 : ¬ nI (d) = 8 := fun q => by rw [am_eq8 (by omega)] at q; omega
  refine ⟨st, (upd pc t (nI (p + 1))), (upd mk t 2), ex, sd, (upd fd t (nI (d + 1))), pn, sk, (upd fk (t * 8 + d) 2), (upd fa (t * 8 + d) 2), (upd fs (t * 8 + d) (mk t)), pX, pY, ho, aq, rl, (am_I_mk (am_I_fr (am_I_fd (d := d + 1) I ht (by omega)) (fun q => absurd q (by decide))) ht), P, fun post h => ?_, fun post h => ?_⟩
  · simp (disch := omega) only [wpX_execute, wpX_enterMask, wpX_clamp, wpX_pushFrame, hpc, hop, am_ne_12_1, am_ne_12_2, am_ne_12_3, am_ne_12_4, am_ne_12_5, am_ne_12_6, am_ne_12_7, am_ne_12_8, am_ne_12_9, am_ne_12_10, am_ne_12_11, ha, hz, qa, qb, hf, q8, nI_clamp, pk_us, am_uu, nI_1, nI_pred, am_ip, nI_add, am_m8, am_m4, vp_in_nI, true_and, and_true, forall_eq, true_implies, false_implies, not_true_eq_false, not_false_eq_true, am_ne_1_0, Int32.reduceLT, Int32.reduceLE]
    exact h
  · simp (disch := omega) only [wpY_exec, wpY_pushFrame, wY_exec_597, hpc, hop, am_ne_12_1, am_ne_12_2, am_ne_12_3, am_ne_12_4, am_ne_12_5, am_ne_12_6, am_ne_12_7, am_ne_12_8, am_ne_12_9, am_ne_12_10, am_ne_12_11, ha, hz, qa, qb, hf, q8, nI_clamp, pk_us, am_uu, nI_1, nI_pred, am_ip, nI_add, am_m8, am_m4, vp_in_nI, true_and, and_true, forall_eq, true_implies, false_implies, not_true_eq_false, not_false_eq_true, am_ne_1_0, Int32.reduceLT, Int32.reduceLE]
    exact h
theorem am_op_mask_mid_full (I : am_I M st mk ex sd fd pn fk fa) (P : am_P pn pX pY) (ht : t < M) (hN : N ≤ 64) (hp : p < N) (hpc : pc t = nI p) (hop : co p = 12) (hz : ¬ ca p < 0) (ha : ca p ≤ 2) (hf : fd t = 8) : am_Out C Z N M co ca (fun post => wpX_execute post (nI C, nI Z, nI N, nI M, co, ca, st, pc, mk, ex, sd, fd, pn, sk, fk, fa, fs, pX, ho, aq, rl) (nI t)) (fun post => wpY_exec post (nI C, nI Z, nI N, nI M, co, ca, st, pc, mk, ex, sd, fd, pn, sk, fk, fa, fs, pY, ho, aq, rl) (nI t)) := by
  have hM := I.1
  have qa : ¬ 2 < ca p := Int32.not_lt.mpr ha
  have qb : 0 ≤ ca p := Int32.not_lt.mp hz
  obtain ⟨st', pc', mk', ex', sd', fd', pn', sk', fk', fa', fs', pX', pY', ho', aq', rl', hI', hP', hX', hY'⟩ := am_raise (C := C) (Z := Z) (N := N) (co := co) (ca := ca) (pc := (upd pc t (nI (p + 1)))) (sk := sk) (fs := fs) (ho := ho) (aq := aq) (rl := rl) (e := (-3)) I P ht
  refine ⟨st', pc', mk', ex', sd', fd', pn', sk', fk', fa', fs', pX', pY', ho', aq', rl', hI', hP', fun post h => ?_, fun post h => ?_⟩
  · simp (disch := omega) only [wpX_execute, wpX_enterMask, wpX_clamp, wpX_pushFrame, hpc, hop, am_ne_12_1, am_ne_12_2, am_ne_12_3, am_ne_12_4, am_ne_12_5, am_ne_12_6, am_ne_12_7, am_ne_12_8, am_ne_12_9, am_ne_12_10, am_ne_12_11, ha, hz, qa, qb, hf, nI_clamp, pk_us, am_uu, nI_1, nI_pred, am_ip, nI_add, am_m8, am_m4, vp_in_nI, true_and, and_true, forall_eq, true_implies, false_implies, not_true_eq_false, not_false_eq_true, am_ne_1_0, Int32.reduceLT, Int32.reduceLE]
    exact hX' _ h
  · simp (disch := omega) only [wpY_exec, wY_exec_597, hpc, hop, am_ne_12_1, am_ne_12_2, am_ne_12_3, am_ne_12_4, am_ne_12_5, am_ne_12_6, am_ne_12_7, am_ne_12_8, am_ne_12_9, am_ne_12_10, am_ne_12_11, ha, hz, qa, qb, hf, nI_clamp, pk_us, am_uu, nI_1, nI_pred, am_ip, nI_add, am_m8, am_m4, vp_in_nI, true_and, and_true, forall_eq, true_implies, false_implies, not_true_eq_false, not_false_eq_true, am_ne_1_0, Int32.reduceLT, Int32.reduceLE]
    exact hY' _ h
theorem am_op_mask_mid (I : am_I M st mk ex sd fd pn fk fa) (P : am_P pn pX pY) (ht : t < M) (hN : N ≤ 64) (hp : p < N) (hpc : pc t = nI p) (hop : co p = 12) (hz : ¬ ca p < 0) (ha : ca p ≤ 2) (hf : fd t = nI d) (hd : d < 8) : am_Out C Z N M co ca (fun post => wpX_execute post (nI C, nI Z, nI N, nI M, co, ca, st, pc, mk, ex, sd, fd, pn, sk, fk, fa, fs, pX, ho, aq, rl) (nI t)) (fun post => wpY_exec post (nI C, nI Z, nI N, nI M, co, ca, st, pc, mk, ex, sd, fd, pn, sk, fk, fa, fs, pY, ho, aq, rl) (nI t)) := by
  have hM := I.1
  have qa : ¬ 2 < ca p := Int32.not_lt.mpr ha
  have qb : 0 ≤ ca p := Int32.not_lt.mp hz
  have q8 : ¬ nI (d) = 8 := fun q => by rw [am_eq8 (by omega)] at q; omega
  refine ⟨st, (upd pc t (nI (p + 1))), (upd mk t (ca p)), ex, sd, (upd fd t (nI (d + 1))), pn, sk, (upd fk (t * 8 + d) 2), (upd fa (t * 8 + d) (ca p)), (upd fs (t * 8 + d) (mk t)), pX, pY, ho, aq, rl, (am_I_mk (am_I_fr (am_I_fd (d := d + 1) I ht (by omega)) (fun q => absurd q (by decide))) ht), P, fun post h => ?_, fun post h => ?_⟩
  · simp (disch := omega) only [wpX_execute, wpX_enterMask, wpX_clamp, wpX_pushFrame, hpc, hop, am_ne_12_1, am_ne_12_2, am_ne_12_3, am_ne_12_4, am_ne_12_5, am_ne_12_6, am_ne_12_7, am_ne_12_8, am_ne_12_9, am_ne_12_10, am_ne_12_11, ha, hz, qa, qb, hf, q8, nI_clamp, pk_us, am_uu, nI_1, nI_pred, am_ip, nI_add, am_m8, am_m4, vp_in_nI, true_and, and_true, forall_eq, true_implies, false_implies, not_true_eq_false, not_false_eq_true, am_ne_1_0, Int32.reduceLT, Int32.reduceLE]
    exact h
  · simp (disch := omega) only [wpY_exec, wpY_pushFrame, wY_exec_597, hpc, hop, am_ne_12_1, am_ne_12_2, am_ne_12_3, am_ne_12_4, am_ne_12_5, am_ne_12_6, am_ne_12_7, am_ne_12_8, am_ne_12_9, am_ne_12_10, am_ne_12_11, ha, hz, qa, qb, hf, q8, nI_clamp, pk_us, am_uu, nI_1, nI_pred, am_ip, nI_add, am_m8, am_m4, vp_in_nI, true_and, and_true, forall_eq, true_implies, false_implies, not_true_eq_false, not_false_eq_true, am_ne_1_0, Int32.reduceLT, Int32.reduceLE]
    exact h
theorem am_op_end_0 (I : am_I M st mk ex sd fd pn fk fa) (P : am_P pn pX pY) (ht : t < M) (hN : N ≤ 64) (hp : p < N) (hpc : pc t = nI p) (hop : co p = 13) (hf : fd t = 0) : am_Out C Z N M co ca (fun post => wpX_execute post (nI C, nI Z, nI N, nI M, co, ca, st, pc, mk, ex, sd, fd, pn, sk, fk, fa, fs, pX, ho, aq, rl) (nI t)) (fun post => wpY_exec post (nI C, nI Z, nI N, nI M, co, ca, st, pc, mk, ex, sd, fd, pn, sk, fk, fa, fs, pY, ho, aq, rl) (nI t)) := by
  have hM := I.1
  obtain ⟨st', pc', mk', ex', sd', fd', pn', sk', fk', fa', fs', pX', pY', ho', aq', rl', hI', hP', hX', hY'⟩ := am_raise (C := C) (Z := Z) (N := N) (co := co) (ca := ca) (pc := (upd pc t (nI (p + 1)))) (sk := sk) (fs := fs) (ho := ho) (aq := aq) (rl := rl) (e := (-3)) I P ht
  refine ⟨st', pc', mk', ex', sd', fd', pn', sk', fk', fa', fs', pX', pY', ho', aq', rl', hI', hP', fun post h => ?_, fun post h => ?_⟩
  · simp (disch := omega) only [wpX_execute, wpX_endFrame, hpc, hop, am_ne_13_1, am_ne_13_2, am_ne_13_3, am_ne_13_4, am_ne_13_5, am_ne_13_6, am_ne_13_7, am_ne_13_8, am_ne_13_9, am_ne_13_10, am_ne_13_11, am_ne_13_12, hf, nI_clamp, pk_us, am_uu, nI_1, nI_pred, am_ip, nI_add, am_m8, am_m4, vp_in_nI, true_and, and_true, forall_eq, true_implies, false_implies, not_true_eq_false, not_false_eq_true, am_ne_1_0, Int32.reduceLT, Int32.reduceLE]
    exact hX' _ h
  · simp (disch := omega) only [wpY_exec, hpc, hop, am_ne_13_1, am_ne_13_2, am_ne_13_3, am_ne_13_4, am_ne_13_5, am_ne_13_6, am_ne_13_7, am_ne_13_8, am_ne_13_9, am_ne_13_10, am_ne_13_11, am_ne_13_12, hf, nI_clamp, pk_us, am_uu, nI_1, nI_pred, am_ip, nI_add, am_m8, am_m4, vp_in_nI, true_and, and_true, forall_eq, true_implies, false_implies, not_true_eq_false, not_false_eq_true, am_ne_1_0, Int32.reduceLT, Int32.reduceLE]
    exact hY' _ h
theorem am_op_end (I : am_I M st mk ex sd fd pn fk fa) (P : am_P pn pX pY) (ht : t < M) (hN : N ≤ 64) (hp : p < N) (hpc : pc t = nI p) (hop : co p = 13) (hf : fd t = nI (d + 1)) (hd : d < 8) : am_Out C Z N M co ca (fun post => wpX_execute post (nI C, nI Z, nI N, nI M, co, ca, st, pc, mk, ex, sd, fd, pn, sk, fk, fa, fs, pX, ho, aq, rl) (nI t)) (fun post => wpY_exec post (nI C, nI Z, nI N, nI M, co, ca, st, pc, mk, ex, sd, fd, pn, sk, fk, fa, fs, pY, ho, aq, rl) (nI t)) := by
  have hM := I.1
  have hF := I.2.2.2.2.1
  have q0 : ¬ nI (d + 1) = 0 := fun q => by rw [am_eq0 (by omega)] at q; omega
  refine ⟨st, (upd pc t (nI (p + 1))), (upd mk t (fs (t * 8 + d))), ex, sd, (upd fd t (nI d)), pn, sk, fk, fa, fs, pX, pY, (am_ho fk fa ho (t * 8 + d)), aq, (am_rl fk fa rl (t * 8 + d)), am_I_fd (am_I_mk I ht) ht (by omega), P, fun post h => ?_, fun post h => ?_⟩
  · simp (disch := omega) only [wpX_execute, wpX_endFrame, hpc, hop, hf, q0, am_ne_13_1, am_ne_13_2, am_ne_13_3, am_ne_13_4, am_ne_13_5, am_ne_13_6, am_ne_13_7, am_ne_13_8, am_ne_13_9, am_ne_13_10, am_ne_13_11, am_ne_13_12, nI_clamp, pk_us, am_uu, nI_1, nI_pred, am_ip, nI_add, am_m8, am_m4, vp_in_nI, true_and, and_true, forall_eq, true_implies, false_implies, not_true_eq_false, not_false_eq_true, am_ne_1_0, Int32.reduceLT, Int32.reduceLE]
    exact am_X_pop hF (by omega) hd hf h
  · simp (disch := omega) only [wpY_exec, hpc, hop, hf, q0, am_ne_13_1, am_ne_13_2, am_ne_13_3, am_ne_13_4, am_ne_13_5, am_ne_13_6, am_ne_13_7, am_ne_13_8, am_ne_13_9, am_ne_13_10, am_ne_13_11, am_ne_13_12, nI_clamp, pk_us, am_uu, nI_1, nI_pred, am_ip, nI_add, am_m8, am_m4, vp_in_nI, true_and, and_true, forall_eq, true_implies, false_implies, not_true_eq_false, not_false_eq_true, am_ne_1_0, Int32.reduceLT, Int32.reduceLE]
    exact am_Y_pop hF (by omega) hd hf h
theorem am_op_halt (I : am_I M st mk ex sd fd pn fk fa) (P : am_P pn pX pY) (ht : t < M) (hN : N ≤ 64) (hp : p < N) (hpc : pc t = nI p) (ha : st t = 1) (hop : co p = 15) : am_Out C Z N M co ca (fun post => wpX_execute post (nI C, nI Z, nI N, nI M, co, ca, st, pc, mk, ex, sd, fd, pn, sk, fk, fa, fs, pX, ho, aq, rl) (nI t)) (fun post => wpY_exec post (nI C, nI Z, nI N, nI M, co, ca, st, pc, mk, ex, sd, fd, pn, sk, fk, fa, fs, pY, ho, aq, rl) (nI t)) := by
  have hM := I.1
  obtain ⟨d, hd, hf⟩ := I.2.2.1 t
  obtain ⟨st', pc', mk', ex', sd', fd', pn', sk', fk', fa', fs', pX', pY', ho', aq', rl', hI', hP', hX', hY'⟩ := am_ha (C := C) (Z := Z) (N := N) (co := co) (ca := ca) (pc := upd pc t (nI (p + 1))) (sk := sk) (fs := fs) (aq := aq) ht P (I.2.2.2.2.2.1 t ha) d mk fd ho rl hd hf I
  refine ⟨st', pc', mk', ex', sd', fd', pn', sk', fk', fa', fs', pX', pY', ho', aq', rl', hI', hP', fun post h => ?_, fun post h => ?_⟩
  · simp (disch := omega) only [wpX_execute, wpX_halt, hpc, hop, hf, am_ne_15_1, am_ne_15_2, am_ne_15_3, am_ne_15_4, am_ne_15_5, am_ne_15_6, am_ne_15_7, am_ne_15_8, am_ne_15_9, am_ne_15_10, am_ne_15_11, am_ne_15_12, am_ne_15_13, am_ne_15_14, nI_clamp, pk_us, am_uu, nI_1, nI_pred, am_ip, nI_add, am_m8, am_m4, vp_in_nI, true_and, and_true, forall_eq, true_implies, false_implies, not_true_eq_false, not_false_eq_true, am_ne_1_0, Int32.reduceLT, Int32.reduceLE]
    exact ⟨d + 1, hX' _ h (d + 1) (by omega)⟩
  · simp (disch := omega) only [wpY_exec, hpc, hop, am_ne_15_1, am_ne_15_2, am_ne_15_3, am_ne_15_4, am_ne_15_5, am_ne_15_6, am_ne_15_7, am_ne_15_8, am_ne_15_9, am_ne_15_10, am_ne_15_11, am_ne_15_12, am_ne_15_13, am_ne_15_14, nI_clamp, pk_us, am_uu, nI_1, nI_pred, am_ip, nI_add, am_m8, am_m4, vp_in_nI, true_and, and_true, forall_eq, true_implies, false_implies, not_true_eq_false, not_false_eq_true, am_ne_1_0, Int32.reduceLT, Int32.reduceLE]
    exact ⟨9, hY' _ h 0 9 (by omega) (by omega)⟩
theorem am_op_lo (I : am_I M st mk ex sd fd pn fk fa) (P : am_P pn pX pY) (ht : t < M) (hN : N ≤ 64) (hp : p < N) (hpc : pc t = nI p) (hop : co p < 1) : am_Out C Z N M co ca (fun post => wpX_execute post (nI C, nI Z, nI N, nI M, co, ca, st, pc, mk, ex, sd, fd, pn, sk, fk, fa, fs, pX, ho, aq, rl) (nI t)) (fun post => wpY_exec post (nI C, nI Z, nI N, nI M, co, ca, st, pc, mk, ex, sd, fd, pn, sk, fk, fa, fs, pY, ho, aq, rl) (nI t)) := by
  have hM := I.1
  refine ⟨st, (upd pc t (nI (p + 1))), mk, ex, sd, fd, pn, sk, fk, fa, fs, pX, pY, ho, aq, rl, I, P, fun post h => ?_, fun post h => ?_⟩
  · simp (disch := omega) only [wpX_execute, hpc, hop, nI_clamp, pk_us, am_uu, nI_1, nI_pred, am_ip, nI_add, am_m8, am_m4, vp_in_nI, true_and, and_true, forall_eq, true_implies, false_implies, not_true_eq_false, not_false_eq_true, am_ne_1_0, Int32.reduceLT, Int32.reduceLE]
    exact h
  · simp (disch := omega) only [wpY_exec, hpc, hop, nI_clamp, pk_us, am_uu, nI_1, nI_pred, am_ip, nI_add, am_m8, am_m4, vp_in_nI, true_and, and_true, forall_eq, true_implies, false_implies, not_true_eq_false, not_false_eq_true, am_ne_1_0, Int32.reduceLT, Int32.reduceLE]
    exact h
theorem am_op_hi (I : am_I M st mk ex sd fd pn fk fa) (P : am_P pn pX pY) (ht : t < M) (hN : N ≤ 64) (hp : p < N) (hpc : pc t = nI p) (hlo : ¬ co p < 1) (hop : 15 < co p) : am_Out C Z N M co ca (fun post => wpX_execute post (nI C, nI Z, nI N, nI M, co, ca, st, pc, mk, ex, sd, fd, pn, sk, fk, fa, fs, pX, ho, aq, rl) (nI t)) (fun post => wpY_exec post (nI C, nI Z, nI N, nI M, co, ca, st, pc, mk, ex, sd, fd, pn, sk, fk, fa, fs, pY, ho, aq, rl) (nI t)) := by
  have hM := I.1
  refine ⟨st, (upd pc t (nI (p + 1))), mk, ex, sd, fd, pn, sk, fk, fa, fs, pX, pY, ho, aq, rl, I, P, fun post h => ?_, fun post h => ?_⟩
  · simp (disch := omega) only [wpX_execute, hpc, hop, hlo, nI_clamp, pk_us, am_uu, nI_1, nI_pred, am_ip, nI_add, am_m8, am_m4, vp_in_nI, true_and, and_true, forall_eq, true_implies, false_implies, not_true_eq_false, not_false_eq_true, am_ne_1_0, Int32.reduceLT, Int32.reduceLE]
    exact h
  · simp (disch := omega) only [wpY_exec, hpc, hop, hlo, nI_clamp, pk_us, am_uu, nI_1, nI_pred, am_ip, nI_add, am_m8, am_m4, vp_in_nI, true_and, and_true, forall_eq, true_implies, false_implies, not_true_eq_false, not_false_eq_true, am_ne_1_0, Int32.reduceLT, Int32.reduceLE]
    exact h
theorem am_op_br_neg (I : am_I M st mk ex sd fd pn fk fa) (P : am_P pn pX pY) (ht : t < M) (hN : N ≤ 64) (hp : p < N) (hpc : pc t = nI p) (hop : co p = 14) (ha : ca p < 0) : am_Out C Z N M co ca (fun post => wpX_execute post (nI C, nI Z, nI N, nI M, co, ca, st, pc, mk, ex, sd, fd, pn, sk, fk, fa, fs, pX, ho, aq, rl) (nI t)) (fun post => wpY_exec post (nI C, nI Z, nI N, nI M, co, ca, st, pc, mk, ex, sd, fd, pn, sk, fk, fa, fs, pY, ho, aq, rl) (nI t)) := by
  have hM := I.1
  obtain ⟨st', pc', mk', ex', sd', fd', pn', sk', fk', fa', fs', pX', pY', ho', aq', rl', hI', hP', hX', hY'⟩ := am_raise (C := C) (Z := Z) (N := N) (co := co) (ca := ca) (pc := (upd pc t (nI (p + 1)))) (sk := sk) (fs := fs) (ho := ho) (aq := aq) (rl := rl) (e := (-4)) I P ht
  refine ⟨st', pc', mk', ex', sd', fd', pn', sk', fk', fa', fs', pX', pY', ho', aq', rl', hI', hP', fun post h => ?_, fun post h => ?_⟩
  · simp (disch := omega) only [wpX_execute, wpX_enterBracket, wpX_isResource, hpc, hop, am_ne_14_1, am_ne_14_2, am_ne_14_3, am_ne_14_4, am_ne_14_5, am_ne_14_6, am_ne_14_7, am_ne_14_8, am_ne_14_9, am_ne_14_10, am_ne_14_11, am_ne_14_12, am_ne_14_13, ha, nI_clamp, pk_us, am_uu, nI_1, nI_pred, am_ip, nI_add, am_m8, am_m4, vp_in_nI, true_and, and_true, forall_eq, true_implies, false_implies, not_true_eq_false, not_false_eq_true, am_ne_1_0, Int32.reduceLT, Int32.reduceLE]
    exact hX' _ h
  · simp (disch := omega) only [wpY_exec, wY_exec_685, hpc, hop, am_ne_14_1, am_ne_14_2, am_ne_14_3, am_ne_14_4, am_ne_14_5, am_ne_14_6, am_ne_14_7, am_ne_14_8, am_ne_14_9, am_ne_14_10, am_ne_14_11, am_ne_14_12, am_ne_14_13, ha, nI_clamp, pk_us, am_uu, nI_1, nI_pred, am_ip, nI_add, am_m8, am_m4, vp_in_nI, true_and, and_true, forall_eq, true_implies, false_implies, not_true_eq_false, not_false_eq_true, am_ne_1_0, Int32.reduceLT, Int32.reduceLE]
    exact hY' _ h
theorem am_op_br_big (I : am_I M st mk ex sd fd pn fk fa) (P : am_P pn pX pY) (ht : t < M) (hN : N ≤ 64) (hp : p < N) (hpc : pc t = nI p) (hop : co p = 14) (hz : ¬ ca p < 0) (ha : 8 ≤ ca p) : am_Out C Z N M co ca (fun post => wpX_execute post (nI C, nI Z, nI N, nI M, co, ca, st, pc, mk, ex, sd, fd, pn, sk, fk, fa, fs, pX, ho, aq, rl) (nI t)) (fun post => wpY_exec post (nI C, nI Z, nI N, nI M, co, ca, st, pc, mk, ex, sd, fd, pn, sk, fk, fa, fs, pY, ho, aq, rl) (nI t)) := by
  have hM := I.1
  have qa : ¬ ca p < 8 := Int32.not_lt.mpr ha
  have qb : 0 ≤ ca p := Int32.not_lt.mp hz
  have qc : ¬ ca p ≤ 7 := Int32.not_le.mpr (Int32.lt_of_lt_of_le (by decide) ha)
  obtain ⟨st', pc', mk', ex', sd', fd', pn', sk', fk', fa', fs', pX', pY', ho', aq', rl', hI', hP', hX', hY'⟩ := am_raise (C := C) (Z := Z) (N := N) (co := co) (ca := ca) (pc := (upd pc t (nI (p + 1)))) (sk := sk) (fs := fs) (ho := ho) (aq := aq) (rl := rl) (e := (-4)) I P ht
  refine ⟨st', pc', mk', ex', sd', fd', pn', sk', fk', fa', fs', pX', pY', ho', aq', rl', hI', hP', fun post h => ?_, fun post h => ?_⟩
  · simp (disch := omega) only [wpX_execute, wpX_enterBracket, wpX_isResource, hpc, hop, am_ne_14_1, am_ne_14_2, am_ne_14_3, am_ne_14_4, am_ne_14_5, am_ne_14_6, am_ne_14_7, am_ne_14_8, am_ne_14_9, am_ne_14_10, am_ne_14_11, am_ne_14_12, am_ne_14_13, ha, hz, qc, nI_clamp, pk_us, am_uu, nI_1, nI_pred, am_ip, nI_add, am_m8, am_m4, vp_in_nI, true_and, and_true, forall_eq, true_implies, false_implies, not_true_eq_false, not_false_eq_true, am_ne_1_0, Int32.reduceLT, Int32.reduceLE]
    exact hX' _ h
  · simp (disch := omega) only [wpY_exec, wY_exec_685, hpc, hop, am_ne_14_1, am_ne_14_2, am_ne_14_3, am_ne_14_4, am_ne_14_5, am_ne_14_6, am_ne_14_7, am_ne_14_8, am_ne_14_9, am_ne_14_10, am_ne_14_11, am_ne_14_12, am_ne_14_13, ha, hz, qc, nI_clamp, pk_us, am_uu, nI_1, nI_pred, am_ip, nI_add, am_m8, am_m4, vp_in_nI, true_and, and_true, forall_eq, true_implies, false_implies, not_true_eq_false, not_false_eq_true, am_ne_1_0, Int32.reduceLT, Int32.reduceLE]
    exact hY' _ h
theorem am_op_br_full (I : am_I M st mk ex sd fd pn fk fa) (P : am_P pn pX pY) (ht : t < M) (hN : N ≤ 64) (hp : p < N) (hpc : pc t = nI p) (hop : co p = 14) {r : Nat} (hr : r < 8) (ha : ca p = nI r) (hf : fd t = 8) : am_Out C Z N M co ca (fun post => wpX_execute post (nI C, nI Z, nI N, nI M, co, ca, st, pc, mk, ex, sd, fd, pn, sk, fk, fa, fs, pX, ho, aq, rl) (nI t)) (fun post => wpY_exec post (nI C, nI Z, nI N, nI M, co, ca, st, pc, mk, ex, sd, fd, pn, sk, fk, fa, fs, pY, ho, aq, rl) (nI t)) := by
  have hM := I.1
  have qx : ¬ nI r < 0 := nI_pos (by omega)
  have qy : 0 ≤ nI r := nI_pos' (by omega)
  have qz : nI r < 8 := nI_lt (b := 8) hr (by omega)
  have qw : ¬ 8 ≤ nI r := nI_ge (b := 8) hr (by omega)
  have qv : nI r ≤ 7 := nI_le (b := 7) (by omega) (by omega)
  obtain ⟨st', pc', mk', ex', sd', fd', pn', sk', fk', fa', fs', pX', pY', ho', aq', rl', hI', hP', hX', hY'⟩ := am_raise (C := C) (Z := Z) (N := N) (co := co) (ca := ca) (pc := (upd pc t (nI (p + 1)))) (sk := sk) (fs := fs) (ho := ho) (aq := aq) (rl := rl) (e := (-3)) I P ht
  refine ⟨st', pc', mk', ex', sd', fd', pn', sk', fk', fa', fs', pX', pY', ho', aq', rl', hI', hP', fun post h => ?_, fun post h => ?_⟩
  · simp (disch := omega) only [wpX_execute, wpX_enterBracket, wpX_isResource, wpX_pushFrame, hpc, hop, am_ne_14_1, am_ne_14_2, am_ne_14_3, am_ne_14_4, am_ne_14_5, am_ne_14_6, am_ne_14_7, am_ne_14_8, am_ne_14_9, am_ne_14_10, am_ne_14_11, am_ne_14_12, am_ne_14_13, ha, qx, qw, qv, hf, nI_clamp, pk_us, am_uu, nI_1, nI_pred, am_ip, nI_add, am_m8, am_m4, vp_in_nI, true_and, and_true, forall_eq, true_implies, false_implies, not_true_eq_false, not_false_eq_true, am_ne_1_0, Int32.reduceLT, Int32.reduceLE]
    exact hX' _ h
  · simp (disch := omega) only [wpY_exec, hpc, hop, am_ne_14_1, am_ne_14_2, am_ne_14_3, am_ne_14_4, am_ne_14_5, am_ne_14_6, am_ne_14_7, am_ne_14_8, am_ne_14_9, am_ne_14_10, am_ne_14_11, am_ne_14_12, am_ne_14_13, ha, qx, qw, qv, hf, nI_clamp, pk_us, am_uu, nI_1, nI_pred, am_ip, nI_add, am_m8, am_m4, vp_in_nI, true_and, and_true, forall_eq, true_implies, false_implies, not_true_eq_false, not_false_eq_true, am_ne_1_0, Int32.reduceLT, Int32.reduceLE]
    exact hY' _ h
theorem am_op_br (I : am_I M st mk ex sd fd pn fk fa) (P : am_P pn pX pY) (ht : t < M) (hN : N ≤ 64) (hp : p < N) (hpc : pc t = nI p) (hop : co p = 14) {r : Nat} (hr : r < 8) (ha : ca p = nI r) (hf : fd t = nI d) (hd : d < 8) : am_Out C Z N M co ca (fun post => wpX_execute post (nI C, nI Z, nI N, nI M, co, ca, st, pc, mk, ex, sd, fd, pn, sk, fk, fa, fs, pX, ho, aq, rl) (nI t)) (fun post => wpY_exec post (nI C, nI Z, nI N, nI M, co, ca, st, pc, mk, ex, sd, fd, pn, sk, fk, fa, fs, pY, ho, aq, rl) (nI t)) := by
  have hM := I.1
  have qx : ¬ nI r < 0 := nI_pos (by omega)
  have qy : 0 ≤ nI r := nI_pos' (by omega)
  have qz : nI r < 8 := nI_lt (b := 8) hr (by omega)
  have qw : ¬ 8 ≤ nI r := nI_ge (b := 8) hr (by omega)
  have qv : nI r ≤ 7 := nI_le (b := 7) (by omega) (by omega)
  have q8 : ¬ nI (d) = 8 := fun q => by rw [am_eq8 (by omega)] at q; omega
  refine ⟨st, (upd pc t (nI (p + 1))), mk, ex, sd, (upd fd t (nI (d + 1))), pn, sk, (upd fk (t * 8 + d) 3), (upd fa (t * 8 + d) (nI r)), (upd fs (t * 8 + d) (mk t)), pX, pY, (upd ho r (nI t)), (upd aq r (aq r + 1)), rl, (am_I_fr (am_I_fd (d := d + 1) I ht (by omega)) (fun _ => ⟨r, hr, rfl⟩)), P, fun post h => ?_, fun post h => ?_⟩
  · simp (disch := omega) only [wpX_execute, wpX_enterBracket, wpX_isResource, wpX_pushFrame, hpc, hop, am_ne_14_1, am_ne_14_2, am_ne_14_3, am_ne_14_4, am_ne_14_5, am_ne_14_6, am_ne_14_7, am_ne_14_8, am_ne_14_9, am_ne_14_10, am_ne_14_11, am_ne_14_12, am_ne_14_13, ha, qx, qw, qv, hf, q8, nI_clamp, pk_us, am_uu, nI_1, nI_pred, am_ip, nI_add, am_m8, am_m4, vp_in_nI, true_and, and_true, forall_eq, true_implies, false_implies, not_true_eq_false, not_false_eq_true, am_ne_1_0, Int32.reduceLT, Int32.reduceLE]
    exact h
  · simp (disch := omega) only [wpY_exec, wpY_pushFrame, hpc, hop, am_ne_14_1, am_ne_14_2, am_ne_14_3, am_ne_14_4, am_ne_14_5, am_ne_14_6, am_ne_14_7, am_ne_14_8, am_ne_14_9, am_ne_14_10, am_ne_14_11, am_ne_14_12, am_ne_14_13, ha, qx, qw, qv, hf, q8, nI_clamp, pk_us, am_uu, nI_1, nI_pred, am_ip, nI_add, am_m8, am_m4, vp_in_nI, true_and, and_true, forall_eq, true_implies, false_implies, not_true_eq_false, not_false_eq_true, am_ne_1_0, Int32.reduceLT, Int32.reduceLE]
    exact h
end
end
section
theorem am_ne_x : ¬ (10 : Int32) = 14 := by decide
section
variable {C Z N M t p d : Nat} {co ca st pc mk ex sd fd pn sk fk fa fs pd pX pY ho aq rl : Nat → Int32}
theorem am_exec (I : am_I M st mk ex sd fd pn fk fa) (P : am_P pn pX pY) (ht : t < M) (hN : N ≤ 64) (hp : p < N) (hpc : pc t = nI p) (ha : st t = 1) : am_Out C Z N M co ca (fun post => wpX_execute post (nI C, nI Z, nI N, nI M, co, ca, st, pc, mk, ex, sd, fd, pn, sk, fk, fa, fs, pX, ho, aq, rl) (nI t)) (fun post => wpY_exec post (nI C, nI Z, nI N, nI M, co, ca, st, pc, mk, ex, sd, fd, pn, sk, fk, fa, fs, pY, ho, aq, rl) (nI t)) := by
  have hM := I.1
  obtain ⟨a, ha8, hs⟩ := I.2.1 t
  obtain ⟨b, hb8, hf⟩ := I.2.2.1 t
  by_cases h1 : co p = 1
  · by_cases q : a = 8
    · subst q
      exact am_op_push_full I P ht hN hp hpc h1 hs
    · exact am_op_push I P ht hN hp hpc h1 hs (by omega)
  by_cases h2 : co p = 2
  · cases a with
    | zero => exact am_op_pop_0 I P ht hN hp hpc h2 hs
    | succ a => exact am_op_pop I P ht hN hp hpc h2 hs (by omega)
  by_cases h3 : co p = 3
  · cases a with
    | zero => exact am_op_dup_0 I P ht hN hp hpc h3 hs
    | succ a =>
      by_cases q : a = 7
      · exact am_op_dup_full I P ht hN hp hpc h3 hs q
      · exact am_op_dup I P ht hN hp hpc h3 hs (by omega)
  by_cases h4 : co p = 4
  · by_cases q : a < 2
    · exact am_op_add_0 I P ht hN hp hpc h4 hs q
    · obtain ⟨a, rfl⟩ : ∃ g, a = g + 1 + 1 := ⟨a - 2, by omega⟩
      exact am_op_add I P ht hN hp hpc h4 hs (by omega)
  by_cases h5 : co p = 5
  · by_cases q : a < 2
    · exact am_op_sub_0 I P ht hN hp hpc h5 hs q
    · obtain ⟨a, rfl⟩ : ∃ g, a = g + 1 + 1 := ⟨a - 2, by omega⟩
      exact am_op_sub I P ht hN hp hpc h5 hs (by omega)
  by_cases h6 : co p = 6
  · exact am_op_jmp I P ht hN hp hpc h6
  by_cases h7 : co p = 7
  · cases a with
    | zero => exact am_op_jz_0 I P ht hN hp hpc h7 hs
    | succ a =>
      by_cases q : sk (t * 8 + a) = 0
      · exact am_op_jz_y I P ht hN hp hpc h7 hs (by omega) q
      · exact am_op_jz_n I P ht hN hp hpc h7 hs (by omega) q
  by_cases h8 : co p = 8
  · by_cases q : a = 8
    · subst q
      exact am_op_myid_full I P ht hN hp hpc h8 hs
    · exact am_op_myid I P ht hN hp hpc h8 hs (by omega)
  by_cases h9 : co p = 9
  · cases a with
    | zero => exact am_op_thr_0 I P ht hN hp hpc h9 hs
    | succ a => exact am_op_thr I P ht hN hp hpc h9 hs (by omega)
  by_cases h10 : co p = 10
  · cases a with
    | zero => exact am_op_tto_0 I P ht hN hp hpc h10 hs
    | succ a =>
      rcases pk_ix (ca p) (n := M) (by omega) with q | q | ⟨u, hu, q⟩
      · exact am_op_tto_neg I P ht hN hp hpc h10 hs (by omega) q
      · exact am_op_tto_big I P ht hN hp hpc h10 hs (by omega) (am_nb (by omega) q) q
      · by_cases w : u = t
        · subst w
          exact am_op_tto_me I P ht hN hp hpc h10 hs (by omega) q
        · by_cases x : st u = 1
          · obtain ⟨c, hc, hx⟩ := I.2.2.2.1 u
            by_cases z : c = 4
            · subst z
              exact am_op_tto_full (c := 0) I P ht hN hp hpc h10 hs (by omega) hu w q x hx
            · exact am_op_tto I P ht hN hp hpc h10 hs (by omega) hu w q x hx (by omega)
          · exact am_op_tto_dead (c := 0) I P ht hN hp hpc h10 hs (by omega) hu w q x
  by_cases h11 : co p = 11
  · by_cases q : b = 8
    · subst q
      exact am_op_catch_full I P ht hN hp hpc h11 hf
    · exact am_op_catch I P ht hN hp hpc h11 hf (by omega)
  by_cases h12 : co p = 12
  · by_cases z : ca p < 0
    · by_cases q : b = 8
      · subst q
        exact am_op_mask_neg_full I P ht hN hp hpc h12 z hf
      · exact am_op_mask_neg I P ht hN hp hpc h12 z hf (by omega)
    · by_cases y : ca p ≤ 2
      · by_cases q : b = 8
        · subst q
          exact am_op_mask_mid_full I P ht hN hp hpc h12 z y hf
        · exact am_op_mask_mid I P ht hN hp hpc h12 z y hf (by omega)
      · by_cases q : b = 8
        · subst q
          exact am_op_mask_big_full I P ht hN hp hpc h12 z (Int32.not_le.mp y) hf
        · exact am_op_mask_big I P ht hN hp hpc h12 z (Int32.not_le.mp y) hf (by omega)
  by_cases h13 : co p = 13
  · cases b with
    | zero => exact am_op_end_0 I P ht hN hp hpc h13 hf
    | succ b => exact am_op_end I P ht hN hp hpc h13 hf (by omega)
  by_cases h14 : co p = 14
  · rcases pk_ix (ca p) (n := 8) (by omega) with q | q | ⟨r, hr, q⟩
    · exact am_op_br_neg I P ht hN hp hpc h14 q
    · exact am_op_br_big I P ht hN hp hpc h14 (am_nb (M := 8) (by omega) q) q
    · by_cases w : b = 8
      · subst w
        exact am_op_br_full I P ht hN hp hpc h14 hr q hf
      · exact am_op_br I P ht hN hp hpc h14 hr q hf (by omega)
  by_cases h15 : co p = 15
  · exact am_op_halt I P ht hN hp hpc ha h15
  by_cases hlo : co p < 1
  · exact am_op_lo I P ht hN hp hpc hlo
  by_cases hhi : 15 < co p
  · exact am_op_hi I P ht hN hp hpc hlo hhi
  refine ⟨st, pc, mk, ex, sd, fd, pn, sk, fk, fa, fs, pX, pY, ho, aq, rl, I, P, fun post _ => ?_, fun post _ => ?_⟩
  · simp (disch := omega) only [wpX_execute, hpc, hlo, hhi, h1, h2, h3, h4, h5, h6, h7, h8, h9, h10, h11, h12, h13, h14, h15, nI_clamp, pk_us, am_uu, nI_1, nI_pred, am_ip, nI_add, am_m8, am_m4, vp_in_nI, true_and, and_true, forall_eq, true_implies, false_implies, not_true_eq_false, not_false_eq_true, am_ne_1_0, Int32.reduceLT, Int32.reduceLE]
  · simp (disch := omega) only [wpY_exec, hpc, hlo, hhi, h1, h2, h3, h4, h5, h6, h7, h8, h9, h10, h11, h12, h13, h14, h15, nI_clamp, pk_us, am_uu, nI_1, nI_pred, am_ip, nI_add, am_m8, am_m4, vp_in_nI, true_and, and_true, forall_eq, true_implies, false_implies, not_true_eq_false, not_false_eq_true, am_ne_1_0, Int32.reduceLT, Int32.reduceLE]
theorem am_bl (I : am_I M st mk ex sd fd pn fk fa) (ht : t < M) (hN : N ≤ 64) : ∃ b : Int32, (b = 0 ∨ b = 1) ∧ (∀ (post : Int32 → Prop) (pd : Nat → Int32), post b → wpX_isBlocked post (nI C, nI Z, nI N, nI M, co, ca, st, pc, mk, ex, sd, fd, pn, sk, fk, fa, fs, pd, ho, aq, rl) (nI t)) ∧ (∀ (post : Int32 → Prop) (pd : Nat → Int32), post b → wpY_blocked post (nI C, nI Z, nI N, nI M, co, ca, st, pc, mk, ex, sd, fd, pn, sk, fk, fa, fs, pd, ho, aq, rl) (nI t)) := by
  have hM := I.1
  obtain ⟨a, ha8, hs⟩ := I.2.1 t
  by_cases ha : st t = 1
  case neg =>
    refine ⟨0, Or.inl rfl, fun post pd h => ?_, fun post pd h => ?_⟩
    · simp (disch := omega) only [wpX_isBlocked, wpX_isCodeAddress, wpX_isAlive, wpX_isThread, wpX_isResource, ha, am_ne_14_10, am_ne_x, nI_clamp, pk_us, am_uu, nI_1, nI_pred, am_ip, nI_add, am_m8, am_m4, vp_in_nI, true_and, and_true, forall_eq, true_implies, false_implies, not_true_eq_false, not_false_eq_true, am_ne_1_0, Int32.reduceLT, Int32.reduceLE]
      exact h
    · simp (disch := omega) only [wpY_blocked, ha, am_ne_14_10, am_ne_x, nI_clamp, pk_us, am_uu, nI_1, nI_pred, am_ip, nI_add, am_m8, am_m4, vp_in_nI, true_and, and_true, forall_eq, true_implies, false_implies, not_true_eq_false, not_false_eq_true, am_ne_1_0, Int32.reduceLT, Int32.reduceLE]
      exact h
  rcases pk_ix (pc t) (n := N) (by omega) with hp | hp | ⟨p, hp, hpc⟩
  · refine ⟨0, Or.inl rfl, fun post pd h => ?_, fun post pd h => ?_⟩
    · simp (disch := omega) only [wpX_isBlocked, wpX_isCodeAddress, wpX_isAlive, wpX_isThread, wpX_isResource, ha, hp, am_ne_14_10, am_ne_x, nI_clamp, pk_us, am_uu, nI_1, nI_pred, am_ip, nI_add, am_m8, am_m4, vp_in_nI, true_and, and_true, forall_eq, true_implies, false_implies, not_true_eq_false, not_false_eq_true, am_ne_1_0, Int32.reduceLT, Int32.reduceLE]
      exact h
    · simp (disch := omega) only [wpY_blocked, ha, hp, am_ne_14_10, am_ne_x, nI_clamp, pk_us, am_uu, nI_1, nI_pred, am_ip, nI_add, am_m8, am_m4, vp_in_nI, true_and, and_true, forall_eq, true_implies, false_implies, not_true_eq_false, not_false_eq_true, am_ne_1_0, Int32.reduceLT, Int32.reduceLE]
      exact h
  · have hz : ¬ pc t < 0 := am_nb (by omega) hp
    have hy : ¬ pc t < nI N := Int32.not_lt.mpr hp
    refine ⟨0, Or.inl rfl, fun post pd h => ?_, fun post pd h => ?_⟩
    · simp (disch := omega) only [wpX_isBlocked, wpX_isCodeAddress, wpX_isAlive, wpX_isThread, wpX_isResource, ha, hz, hy, hp, am_ne_14_10, am_ne_x, nI_clamp, pk_us, am_uu, nI_1, nI_pred, am_ip, nI_add, am_m8, am_m4, vp_in_nI, true_and, and_true, forall_eq, true_implies, false_implies, not_true_eq_false, not_false_eq_true, am_ne_1_0, Int32.reduceLT, Int32.reduceLE]
      exact h
    · simp (disch := omega) only [wpY_blocked, ha, hz, hy, hp, am_ne_14_10, am_ne_x, nI_clamp, pk_us, am_uu, nI_1, nI_pred, am_ip, nI_add, am_m8, am_m4, vp_in_nI, true_and, and_true, forall_eq, true_implies, false_implies, not_true_eq_false, not_false_eq_true, am_ne_1_0, Int32.reduceLT, Int32.reduceLE]
      exact h
  have e1 : ¬ nI p < 0 := nI_pos (by omega)
  have e2 : ¬ nI N ≤ nI p := nI_ge hp (by omega)
  have e3 : nI p < nI N := nI_lt hp (by omega)
  by_cases h14 : co p = 14
  · rcases pk_ix (ca p) (n := 8) (by omega) with q | q | ⟨r, hr, q⟩
    · refine ⟨0, Or.inl rfl, fun post pd h => ?_, fun post pd h => ?_⟩
      · simp (disch := omega) only [wpX_isBlocked, wpX_isCodeAddress, wpX_isAlive, wpX_isThread, wpX_isResource, ha, hpc, e1, e2, e3, h14, q, am_ne_14_10, am_ne_x, nI_clamp, pk_us, am_uu, nI_1, nI_pred, am_ip, nI_add, am_m8, am_m4, vp_in_nI, true_and, and_true, forall_eq, true_implies, false_implies, not_true_eq_false, not_false_eq_true, am_ne_1_0, Int32.reduceLT, Int32.reduceLE]
        exact h
      · simp (disch := omega) only [wpY_blocked, ha, hpc, e1, e2, e3, h14, q, am_ne_14_10, am_ne_x, nI_clamp, pk_us, am_uu, nI_1, nI_pred, am_ip, nI_add, am_m8, am_m4, vp_in_nI, true_and, and_true, forall_eq, true_implies, false_implies, not_true_eq_false, not_false_eq_true, am_ne_1_0, Int32.reduceLT, Int32.reduceLE]
        exact h
    · have hz : ¬ ca p < 0 := am_nb (M := 8) (by omega) q
      have q8 : 8 ≤ ca p := q
      refine ⟨0, Or.inl rfl, fun post pd h => ?_, fun post pd h => ?_⟩
      · simp (disch := omega) only [wpX_isBlocked, wpX_isCodeAddress, wpX_isAlive, wpX_isThread, wpX_isResource, ha, hpc, e1, e2, e3, h14, q8, hz, am_ne_14_10, am_ne_x, nI_clamp, pk_us, am_uu, nI_1, nI_pred, am_ip, nI_add, am_m8, am_m4, vp_in_nI, true_and, and_true, forall_eq, true_implies, false_implies, not_true_eq_false, not_false_eq_true, am_ne_1_0, Int32.reduceLT, Int32.reduceLE]
        exact h
      · simp (disch := omega) only [wpY_blocked, ha, hpc, e1, e2, e3, h14, q8, hz, am_ne_14_10, am_ne_x, nI_clamp, pk_us, am_uu, nI_1, nI_pred, am_ip, nI_add, am_m8, am_m4, vp_in_nI, true_and, and_true, forall_eq, true_implies, false_implies, not_true_eq_false, not_false_eq_true, am_ne_1_0, Int32.reduceLT, Int32.reduceLE]
        exact h
    · have g1 : ¬ nI r < 0 := nI_pos (by omega)
      have g2 : ¬ 8 ≤ nI r := nI_ge (b := 8) hr (by omega)
      by_cases w : ho r = -1
      · refine ⟨0, Or.inl rfl, fun post pd h => ?_, fun post pd h => ?_⟩
        · simp (disch := omega) only [wpX_isBlocked, wpX_isCodeAddress, wpX_isAlive, wpX_isThread, wpX_isResource, ha, hpc, e1, e2, e3, h14, q, g1, g2, w, am_ne_14_10, am_ne_x, nI_clamp, pk_us, am_uu, nI_1, nI_pred, am_ip, nI_add, am_m8, am_m4, vp_in_nI, true_and, and_true, forall_eq, true_implies, false_implies, not_true_eq_false, not_false_eq_true, am_ne_1_0, Int32.reduceLT, Int32.reduceLE]
          exact h
        · simp (disch := omega) only [wpY_blocked, ha, hpc, e1, e2, e3, h14, q, g1, g2, w, am_ne_14_10, am_ne_x, nI_clamp, pk_us, am_uu, nI_1, nI_pred, am_ip, nI_add, am_m8, am_m4, vp_in_nI, true_and, and_true, forall_eq, true_implies, false_implies, not_true_eq_false, not_false_eq_true, am_ne_1_0, Int32.reduceLT, Int32.reduceLE]
          exact h
      · refine ⟨1, Or.inr rfl, fun post pd h => ?_, fun post pd h => ?_⟩
        · simp (disch := omega) only [wpX_isBlocked, wpX_isCodeAddress, wpX_isAlive, wpX_isThread, wpX_isResource, ha, hpc, e1, e2, e3, h14, q, g1, g2, w, am_ne_14_10, am_ne_x, nI_clamp, pk_us, am_uu, nI_1, nI_pred, am_ip, nI_add, am_m8, am_m4, vp_in_nI, true_and, and_true, forall_eq, true_implies, false_implies, not_true_eq_false, not_false_eq_true, am_ne_1_0, Int32.reduceLT, Int32.reduceLE]
          exact h
        · simp (disch := omega) only [wpY_blocked, ha, hpc, e1, e2, e3, h14, q, g1, g2, w, am_ne_14_10, am_ne_x, nI_clamp, pk_us, am_uu, nI_1, nI_pred, am_ip, nI_add, am_m8, am_m4, vp_in_nI, true_and, and_true, forall_eq, true_implies, false_implies, not_true_eq_false, not_false_eq_true, am_ne_1_0, Int32.reduceLT, Int32.reduceLE]
          exact h
  by_cases h10 : co p = 10
  · by_cases x : a < 1
    · have g0 : nI a < 1 := nI_lt (b := 1) x (by omega)
      refine ⟨0, Or.inl rfl, fun post pd h => ?_, fun post pd h => ?_⟩
      · simp (disch := omega) only [wpX_isBlocked, wpX_isCodeAddress, wpX_isAlive, wpX_isThread, wpX_isResource, ha, hpc, e1, e2, e3, h10, hs, g0, am_ne_14_10, am_ne_x, nI_clamp, pk_us, am_uu, nI_1, nI_pred, am_ip, nI_add, am_m8, am_m4, vp_in_nI, true_and, and_true, forall_eq, true_implies, false_implies, not_true_eq_false, not_false_eq_true, am_ne_1_0, Int32.reduceLT, Int32.reduceLE]
        exact h
      · simp (disch := omega) only [wpY_blocked, ha, hpc, e1, e2, e3, h10, hs, g0, am_ne_14_10, am_ne_x, nI_clamp, pk_us, am_uu, nI_1, nI_pred, am_ip, nI_add, am_m8, am_m4, vp_in_nI, true_and, and_true, forall_eq, true_implies, false_implies, not_true_eq_false, not_false_eq_true, am_ne_1_0, Int32.reduceLT, Int32.reduceLE]
        exact h
    have g0 : ¬ nI a < 1 := nI_nlt (b := 1) (by omega) (by omega)
    rcases pk_ix (ca p) (n := M) (by omega) with q | q | ⟨u, hu, q⟩
    · have qn : ¬ ca p = nI t := fun z => nI_pos (n := t) (by omega) (z ▸ q)
      refine ⟨0, Or.inl rfl, fun post pd h => ?_, fun post pd h => ?_⟩
      · simp (disch := omega) only [wpX_isBlocked, wpX_isCodeAddress, wpX_isAlive, wpX_isThread, wpX_isResource, ha, hpc, e1, e2, e3, h10, hs, g0, q, qn, am_ne_14_10, am_ne_x, nI_clamp, pk_us, am_uu, nI_1, nI_pred, am_ip, nI_add, am_m8, am_m4, vp_in_nI, true_and, and_true, forall_eq, true_implies, false_implies, not_true_eq_false, not_false_eq_true, am_ne_1_0, Int32.reduceLT, Int32.reduceLE]
        exact h
      · simp (disch := omega) only [wpY_blocked, ha, hpc, e1, e2, e3, h10, hs, g0, q, qn, am_ne_14_10, am_ne_x, nI_clamp, pk_us, am_uu, nI_1, nI_pred, am_ip, nI_add, am_m8, am_m4, vp_in_nI, true_and, and_true, forall_eq, true_implies, false_implies, not_true_eq_false, not_false_eq_true, am_ne_1_0, Int32.reduceLT, Int32.reduceLE]
        exact h
    · have hz : ¬ ca p < 0 := am_nb (by omega) q
      have qn : ¬ ca p = nI t := fun z => nI_ge ht (by omega) (z ▸ q)
      refine ⟨0, Or.inl rfl, fun post pd h => ?_, fun post pd h => ?_⟩
      · simp (disch := omega) only [wpX_isBlocked, wpX_isCodeAddress, wpX_isAlive, wpX_isThread, wpX_isResource, ha, hpc, e1, e2, e3, h10, hs, g0, q, hz, qn, am_ne_14_10, am_ne_x, nI_clamp, pk_us, am_uu, nI_1, nI_pred, am_ip, nI_add, am_m8, am_m4, vp_in_nI, true_and, and_true, forall_eq, true_implies, false_implies, not_true_eq_false, not_false_eq_true, am_ne_1_0, Int32.reduceLT, Int32.reduceLE]
        exact h
      · simp (disch := omega) only [wpY_blocked, ha, hpc, e1, e2, e3, h10, hs, g0, q, hz, qn, am_ne_14_10, am_ne_x, nI_clamp, pk_us, am_uu, nI_1, nI_pred, am_ip, nI_add, am_m8, am_m4, vp_in_nI, true_and, and_true, forall_eq, true_implies, false_implies, not_true_eq_false, not_false_eq_true, am_ne_1_0, Int32.reduceLT, Int32.reduceLE]
        exact h
    · have g1 : ¬ nI u < 0 := nI_pos (by omega)
      have g2 : ¬ nI M ≤ nI u := nI_ge hu (by omega)
      by_cases w : u = t
      · subst w
        refine ⟨0, Or.inl rfl, fun post pd h => ?_, fun post pd h => ?_⟩
        · simp (disch := omega) only [wpX_isBlocked, wpX_isCodeAddress, wpX_isAlive, wpX_isThread, wpX_isResource, ha, hpc, e1, e2, e3, h10, hs, g0, q, g1, g2, am_ne_14_10, am_ne_x, nI_clamp, pk_us, am_uu, nI_1, nI_pred, am_ip, nI_add, am_m8, am_m4, vp_in_nI, true_and, and_true, forall_eq, true_implies, false_implies, not_true_eq_false, not_false_eq_true, am_ne_1_0, Int32.reduceLT, Int32.reduceLE]
          exact h
        · simp (disch := omega) only [wpY_blocked, ha, hpc, e1, e2, e3, h10, hs, g0, q, g1, g2, am_ne_14_10, am_ne_x, nI_clamp, pk_us, am_uu, nI_1, nI_pred, am_ip, nI_add, am_m8, am_m4, vp_in_nI, true_and, and_true, forall_eq, true_implies, false_implies, not_true_eq_false, not_false_eq_true, am_ne_1_0, Int32.reduceLT, Int32.reduceLE]
          exact h
      have qn : ¬ nI u = nI t := fun z => w ((nI_eq (by omega) (by omega)).mp z)
      by_cases y : st u = 1
      · by_cases z : pn u = 4
        · refine ⟨1, Or.inr rfl, fun post pd h => ?_, fun post pd h => ?_⟩
          · simp (disch := omega) only [wpX_isBlocked, wpX_isCodeAddress, wpX_isAlive, wpX_isThread, wpX_isResource, ha, hpc, e1, e2, e3, h10, hs, g0, q, g1, g2, qn, y, z, am_ne_14_10, am_ne_x, nI_clamp, pk_us, am_uu, nI_1, nI_pred, am_ip, nI_add, am_m8, am_m4, vp_in_nI, true_and, and_true, forall_eq, true_implies, false_implies, not_true_eq_false, not_false_eq_true, am_ne_1_0, Int32.reduceLT, Int32.reduceLE]
            exact h
          · simp (disch := omega) only [wpY_blocked, ha, hpc, e1, e2, e3, h10, hs, g0, q, g1, g2, qn, y, z, am_ne_14_10, am_ne_x, nI_clamp, pk_us, am_uu, nI_1, nI_pred, am_ip, nI_add, am_m8, am_m4, vp_in_nI, true_and, and_true, forall_eq, true_implies, false_implies, not_true_eq_false, not_false_eq_true, am_ne_1_0, Int32.reduceLT, Int32.reduceLE]
            exact h
        · refine ⟨0, Or.inl rfl, fun post pd h => ?_, fun post pd h => ?_⟩
          · simp (disch := omega) only [wpX_isBlocked, wpX_isCodeAddress, wpX_isAlive, wpX_isThread, wpX_isResource, ha, hpc, e1, e2, e3, h10, hs, g0, q, g1, g2, qn, y, z, am_ne_14_10, am_ne_x, nI_clamp, pk_us, am_uu, nI_1, nI_pred, am_ip, nI_add, am_m8, am_m4, vp_in_nI, true_and, and_true, forall_eq, true_implies, false_implies, not_true_eq_false, not_false_eq_true, am_ne_1_0, Int32.reduceLT, Int32.reduceLE]
            exact h
          · simp (disch := omega) only [wpY_blocked, ha, hpc, e1, e2, e3, h10, hs, g0, q, g1, g2, qn, y, z, am_ne_14_10, am_ne_x, nI_clamp, pk_us, am_uu, nI_1, nI_pred, am_ip, nI_add, am_m8, am_m4, vp_in_nI, true_and, and_true, forall_eq, true_implies, false_implies, not_true_eq_false, not_false_eq_true, am_ne_1_0, Int32.reduceLT, Int32.reduceLE]
            exact h
      · refine ⟨0, Or.inl rfl, fun post pd h => ?_, fun post pd h => ?_⟩
        · simp (disch := omega) only [wpX_isBlocked, wpX_isCodeAddress, wpX_isAlive, wpX_isThread, wpX_isResource, ha, hpc, e1, e2, e3, h10, hs, g0, q, g1, g2, qn, y, am_ne_14_10, am_ne_x, nI_clamp, pk_us, am_uu, nI_1, nI_pred, am_ip, nI_add, am_m8, am_m4, vp_in_nI, true_and, and_true, forall_eq, true_implies, false_implies, not_true_eq_false, not_false_eq_true, am_ne_1_0, Int32.reduceLT, Int32.reduceLE]
          exact h
        · simp (disch := omega) only [wpY_blocked, ha, hpc, e1, e2, e3, h10, hs, g0, q, g1, g2, qn, y, am_ne_14_10, am_ne_x, nI_clamp, pk_us, am_uu, nI_1, nI_pred, am_ip, nI_add, am_m8, am_m4, vp_in_nI, true_and, and_true, forall_eq, true_implies, false_implies, not_true_eq_false, not_false_eq_true, am_ne_1_0, Int32.reduceLT, Int32.reduceLE]
          exact h
  refine ⟨0, Or.inl rfl, fun post pd h => ?_, fun post pd h => ?_⟩
  · simp (disch := omega) only [wpX_isBlocked, wpX_isCodeAddress, wpX_isAlive, wpX_isThread, wpX_isResource, ha, hpc, e1, e2, e3, h14, h10, am_ne_14_10, am_ne_x, nI_clamp, pk_us, am_uu, nI_1, nI_pred, am_ip, nI_add, am_m8, am_m4, vp_in_nI, true_and, and_true, forall_eq, true_implies, false_implies, not_true_eq_false, not_false_eq_true, am_ne_1_0, Int32.reduceLT, Int32.reduceLE]
    exact h
  · simp (disch := omega) only [wpY_blocked, ha, hpc, e1, e2, e3, h14, h10, am_ne_14_10, am_ne_x, nI_clamp, pk_us, am_uu, nI_1, nI_pred, am_ip, nI_add, am_m8, am_m4, vp_in_nI, true_and, and_true, forall_eq, true_implies, false_implies, not_true_eq_false, not_false_eq_true, am_ne_1_0, Int32.reduceLT, Int32.reduceLE]
    exact h
end
end
section
def am_OutR (C Z N M : Nat) (co ca : Nat → Int32) (WX : (Int32 → SX → Prop) → Prop) (WY : (Int32 → SY → Prop) → Prop) : Prop := ∃ (r : Int32) (st pc mk ex sd fd pn sk fk fa fs pX pY ho aq rl : Nat → Int32), am_I M st mk ex sd fd pn fk fa ∧ am_P pn pX pY ∧ (∀ post : Int32 → SX → Prop, post r (nI C, nI Z, nI N, nI M, co, ca, st, pc, mk, ex, sd, fd, pn, sk, fk, fa, fs, pX, ho, aq, rl) → WX post) ∧ (∀ post : Int32 → SY → Prop, post r (nI C, nI Z, nI N, nI M, co, ca, st, pc, mk, ex, sd, fd, pn, sk, fk, fa, fs, pY, ho, aq, rl) → WY post)
def am_J (t : Nat) (p q : Nat → Int32) (i : Nat) : Prop := (∀ k, k < i → q (t * 4 + k) = p (t * 4 + (k + 1))) ∧ (∀ k, i ≤ k → q (t * 4 + k) = p (t * 4 + k)) ∧ (∀ j, (j < t * 4 ∨ t * 4 + 4 ≤ j) → q j = p j)
theorem am_J_0 {t : Nat} {p : Nat → Int32} : am_J t p p 0 := ⟨fun k hk => absurd hk (Nat.not_lt_zero k), fun _ _ => rfl, fun _ _ => rfl⟩
theorem am_J_s {t i : Nat} {p q : Nat → Int32} (hi : i < 4) (h : am_J t p q i) : am_J t p (upd q (t * 4 + i) (q (t * 4 + (i + 1)))) (i + 1) := by
  obtain ⟨h1, h2, h3⟩ := h
  refine ⟨fun k hk => ?_, fun k hk => ?_, fun j hj => ?_⟩
  · by_cases e : k = i
    · rw [e, pk_us]
      exact h2 (i + 1) (by omega)
    · rw [pk_un (by omega)]
      exact h1 k (by omega)
  · rw [pk_un (by omega)]
    exact h2 k (by omega)
  · rw [pk_un (by omega)]
    exact h3 j hj
section
variable {C Z N M t p d : Nat} {co ca st pc mk ex sd fd pn sk fk fa fs pd pX pY ho aq rl : Nat → Int32}
theorem am_X_rem {e : Int32} {c : Nat} (ht : t < 4) (hc : c < 4) (p : Nat → Int32) : ∀ (m i : Nat) (q : Nat → Int32), i + m = c → am_J t p q i → ∃ q' : Nat → Int32, am_J t p q' c ∧ ∀ (post : Int32 → SX → Prop) (f : Nat), m < f → (∀ g, wX_removeOldestPending_26 post (nI t) (nI (t * 4 + c)) e (nI C) (nI Z) (nI N) (nI M) (g + 1) (nI (t * 4 + c)) co ca st pc mk ex sd fd pn sk fk fa fs q' ho aq rl) → wX_removeOldestPending_26 post (nI t) (nI (t * 4 + c)) e (nI C) (nI Z) (nI N) (nI M) f (nI (t * 4 + i)) co ca st pc mk ex sd fd pn sk fk fa fs q ho aq rl := by
  intro m
  induction m with
  | zero =>
    intro i q hi h
    obtain rfl : i = c := by omega
    refine ⟨q, h, fun post f hf hp => ?_⟩
    obtain ⟨f, rfl⟩ : ∃ g, f = g + 1 := ⟨f - 1, by omega⟩
    exact hp f
  | succ m ih =>
    intro i q hi h
    obtain ⟨q', h', H⟩ := ih (i + 1) _ (by omega) (am_J_s (by omega) h)
    refine ⟨q', h', fun post f hf hp => ?_⟩
    obtain ⟨f, rfl⟩ : ∃ g, f = g + 1 := ⟨f - 1, by omega⟩
    have hq := H post f (by omega) hp
    rw [wX_removeOldestPending_26]
    refine br_f (nI_ge (by omega) (by omega)) ?_
    simp (disch := omega) only [Nat.add_assoc, nI_clamp, pk_us, am_uu, nI_1, nI_pred, am_ip, nI_add, am_m8, am_m4, vp_in_nI, true_and, and_true, forall_eq, true_implies, false_implies, not_true_eq_false, not_false_eq_true, am_ne_1_0, Int32.reduceLT, Int32.reduceLE]
    exact hq
theorem am_Y_rem {e : Int32} (ht : t < 4) (p : Nat → Int32) : ∀ (m i : Nat) (q : Nat → Int32), i + m = 3 → am_J t p q i → ∃ q' : Nat → Int32, am_J t p q' 3 ∧ ∀ (post : Int32 → SY → Prop) (f : Nat), m < f → (∀ g, wY_step_71 post (nI t) e (nI C) (nI Z) (nI N) (nI M) (g + 1) (nI 3) co ca st pc mk ex sd fd pn sk fk fa fs q' ho aq rl) → wY_step_71 post (nI t) e (nI C) (nI Z) (nI N) (nI M) f (nI i) co ca st pc mk ex sd fd pn sk fk fa fs q ho aq rl := by
  intro m
  induction m with
  | zero =>
    intro i q hi h
    obtain rfl : i = 3 := by omega
    refine ⟨q, h, fun post f hf hp => ?_⟩
    obtain ⟨f, rfl⟩ : ∃ g, f = g + 1 := ⟨f - 1, by omega⟩
    exact hp f
  | succ m ih =>
    intro i q hi h
    obtain ⟨q', h', H⟩ := ih (i + 1) _ (by omega) (am_J_s (by omega) h)
    refine ⟨q', h', fun post f hf hp => ?_⟩
    obtain ⟨f, rfl⟩ : ∃ g, f = g + 1 := ⟨f - 1, by omega⟩
    have hq := H post f (by omega) hp
    rw [wY_step_71]
    refine br_f (nI_ge (b := 3) (by omega) (by omega)) ?_
    simp (disch := omega) only [Nat.add_assoc, nI_clamp, pk_us, am_uu, nI_1, nI_pred, am_ip, nI_add, am_m8, am_m4, vp_in_nI, true_and, and_true, forall_eq, true_implies, false_implies, not_true_eq_false, not_false_eq_true, am_ne_1_0, Int32.reduceLT, Int32.reduceLE]
    exact hq
theorem am_X_al (ht : t < M) (hM : M ≤ 4) (ha : st t = 1) {post : Int32 → Prop} (h : post 1) : wpX_isAlive post (nI C, nI Z, nI N, nI M, co, ca, st, pc, mk, ex, sd, fd, pn, sk, fk, fa, fs, pd, ho, aq, rl) (nI t) := by
  have e1 : ¬ nI t < 0 := nI_pos (by omega)
  have e2 : ¬ nI M ≤ nI t := nI_ge ht (by omega)
  simp (disch := omega) only [wpX_isAlive, wpX_isThread, e1, e2, ha, nI_clamp, pk_us, am_uu, nI_1, nI_pred, am_ip, nI_add, am_m8, am_m4, vp_in_nI, true_and, and_true, forall_eq, true_implies, false_implies, not_true_eq_false, not_false_eq_true, am_ne_1_0, Int32.reduceLT, Int32.reduceLE]
  exact h
theorem am_del (I : am_I M st mk ex sd fd pn fk fa) (P : am_P pn pX pY) (ht : t < M) (ha : st t = 1) {c : Nat} {b : Int32} (hc : c < 4) (hn : pn t = nI (c + 1)) (hm : mk t = 0 ∨ mk t = 1 ∧ ¬ b = 0) (hbX : ∀ (post : Int32 → Prop) (pd : Nat → Int32), post b → wpX_isBlocked post (nI C, nI Z, nI N, nI M, co, ca, st, pc, mk, ex, sd, fd, pn, sk, fk, fa, fs, pd, ho, aq, rl) (nI t)) : am_OutR C Z N M co ca (fun post => wpX_step post (nI C, nI Z, nI N, nI M, co, ca, st, pc, mk, ex, sd, fd, pn, sk, fk, fa, fs, pX, ho, aq, rl) (nI t)) (fun post => wY_step_60 post (nI t) (nI C) (nI Z) (nI N) (nI M) co ca st pc mk ex sd fd pn sk fk fa fs pY ho aq rl) := by
  have hM := I.1
  obtain ⟨qX, jX, RX⟩ := am_X_rem (C := C) (Z := Z) (N := N) (M := M) (co := co) (ca := ca) (st := st) (pc := pc) (mk := mk) (ex := ex) (sd := sd) (fd := fd) (pn := pn) (sk := sk) (fk := fk) (fa := fa) (fs := fs) (ho := ho) (aq := aq) (rl := rl) (t := t) (e := pX (t * 4)) (by omega) hc pX c 0 pX (by omega) am_J_0
  obtain ⟨qY, jY, RY⟩ := am_Y_rem (C := C) (Z := Z) (N := N) (M := M) (co := co) (ca := ca) (st := st) (pc := pc) (mk := mk) (ex := ex) (sd := sd) (fd := fd) (pn := pn) (sk := sk) (fk := fk) (fa := fa) (fs := fs) (ho := ho) (aq := aq) (rl := rl) (t := t) (e := pX (t * 4)) (by omega) pY 3 0 pY (by omega) am_J_0
  simp only [Nat.add_zero] at RX
  have he : pY (t * 4) = pX (t * 4) := (P t 0 (c + 1) (by omega) (by omega) hn (by omega)).symm
  have P' : am_P (upd pn t (nI c)) qX qY := am_P_rem P (by omega) hc hn jX.1 (fun i hi => jY.1 i (by omega)) jX.2.2 jY.2.2
  obtain ⟨st', pc', mk', ex', sd', fd', pn', sk', fk', fa', fs', pX', pY', ho', aq', rl', hI', hP', hX', hY'⟩ := am_raise (C := C) (Z := Z) (N := N) (co := co) (ca := ca) (pc := pc) (sk := sk) (fs := fs) (ho := ho) (aq := aq) (rl := rl) (e := pX (t * 4)) (am_I_pn (d := c) I ht (by omega)) P' ht
  refine ⟨3, st', pc', mk', ex', sd', fd', pn', sk', fk', fa', fs', pX', pY', ho', aq', rl', hI', hP', fun post h => ?_, fun post h => ?_⟩
  · have e0 : ¬ nI (c + 1) = 0 := nI_ne0 (by omega) (by omega)
    unfold wpX_step
    refine am_X_al ht hM ha (br_f (by decide) (hbX _ pX ?_))
    have hd : ∀ post : Int32 → Prop, post 1 → wpX_isDeliveryDue post (nI C, nI Z, nI N, nI M, co, ca, st, pc, mk, ex, sd, fd, pn, sk, fk, fa, fs, pX, ho, aq, rl) (nI t) b := by
      intro post h
      rcases hm with hm | ⟨hm, hb⟩
      · simp (disch := omega) only [wpX_isDeliveryDue, hn, e0, hm, nI_clamp, pk_us, am_uu, nI_1, nI_pred, am_ip, nI_add, am_m8, am_m4, vp_in_nI, true_and, and_true, forall_eq, true_implies, false_implies, not_true_eq_false, not_false_eq_true, am_ne_1_0, Int32.reduceLT, Int32.reduceLE]
        exact h
      · simp (disch := omega) only [wpX_isDeliveryDue, hn, e0, hm, hb, nI_clamp, pk_us, am_uu, nI_1, nI_pred, am_ip, nI_add, am_m8, am_m4, vp_in_nI, true_and, and_true, forall_eq, true_implies, false_implies, not_true_eq_false, not_false_eq_true, am_ne_1_0, Int32.reduceLT, Int32.reduceLE]
        exact h
    refine hd _ (br_f (by decide) ?_)
    simp (disch := omega) only [wpX_removeOldestPending, hn, nI_clamp, pk_us, am_uu, nI_1, nI_pred, am_ip, nI_add, am_m8, am_m4, vp_in_nI, true_and, and_true, forall_eq, true_implies, false_implies, not_true_eq_false, not_false_eq_true, am_ne_1_0, Int32.reduceLT, Int32.reduceLE]
    refine ⟨c + 1, RX _ (c + 1) (by omega) fun g => ?_⟩
    rw [wX_removeOldestPending_26]
    refine br_t (nI_le (by omega) (by omega)) ?_
    simp (disch := omega) only [hn, nI_clamp, pk_us, am_uu, nI_1, nI_pred, am_ip, nI_add, am_m8, am_m4, vp_in_nI, true_and, and_true, forall_eq, true_implies, false_implies, not_true_eq_false, not_false_eq_true, am_ne_1_0, Int32.reduceLT, Int32.reduceLE]
    exact hX' _ h
  · have hr : wY_step_71 post (nI t) (pX (t * 4)) (nI C) (nI Z) (nI N) (nI M) 4 (nI 0) co ca st pc mk ex sd fd pn sk fk fa fs pY ho aq rl := by
      refine RY _ 4 (by omega) fun g => ?_
      rw [wY_step_71]
      refine br_t (by decide) ?_
      simp (disch := omega) only [hn, nI_clamp, pk_us, am_uu, nI_1, nI_pred, am_ip, nI_add, am_m8, am_m4, vp_in_nI, true_and, and_true, forall_eq, true_implies, false_implies, not_true_eq_false, not_false_eq_true, am_ne_1_0, Int32.reduceLT, Int32.reduceLE]
      exact hY' _ h
    simp (disch := omega) only [wY_step_60, he, nI_clamp, pk_us, am_uu, nI_1, nI_pred, am_ip, nI_add, am_m8, am_m4, vp_in_nI, true_and, and_true, forall_eq, true_implies, false_implies, not_true_eq_false, not_false_eq_true, am_ne_1_0, Int32.reduceLT, Int32.reduceLE]
    exact ⟨4, hr⟩
theorem am_nodel (I : am_I M st mk ex sd fd pn fk fa) (P : am_P pn pX pY) (ht : t < M) (hN : N ≤ 64) (ha : st t = 1) {b : Int32} (hd : ∀ post : Int32 → Prop, post 0 → wpX_isDeliveryDue post (nI C, nI Z, nI N, nI M, co, ca, st, pc, mk, ex, sd, fd, pn, sk, fk, fa, fs, pX, ho, aq, rl) (nI t) b) (hbX : ∀ (post : Int32 → Prop) (pd : Nat → Int32), post b → wpX_isBlocked post (nI C, nI Z, nI N, nI M, co, ca, st, pc, mk, ex, sd, fd, pn, sk, fk, fa, fs, pd, ho, aq, rl) (nI t)) (hbY : ∀ (post : Int32 → Prop) (pd : Nat → Int32), post b → wpY_blocked post (nI C, nI Z, nI N, nI M, co, ca, st, pc, mk, ex, sd, fd, pn, sk, fk, fa, fs, pd, ho, aq, rl) (nI t)) : am_OutR C Z N M co ca (fun post => wpX_step post (nI C, nI Z, nI N, nI M, co, ca, st, pc, mk, ex, sd, fd, pn, sk, fk, fa, fs, pX, ho, aq, rl) (nI t)) (fun post => wY_step_122 post (nI t) (nI C) (nI Z) (nI N) (nI M) co ca st pc mk ex sd fd pn sk fk fa fs pY ho aq rl) := by
  have hM := I.1
  by_cases hb : b = 0
  · rcases pk_ix (pc t) (n := N) (by omega) with hp | hp | ⟨p, hp, hpc⟩
    · obtain ⟨st', pc', mk', ex', sd', fd', pn', sk', fk', fa', fs', pX', pY', ho', aq', rl', hI', hP', hX', hY'⟩ := am_raise (C := C) (Z := Z) (N := N) (co := co) (ca := ca) (pc := pc) (sk := sk) (fs := fs) (ho := ho) (aq := aq) (rl := rl) (e := -5) I P ht
      refine ⟨1, st', pc', mk', ex', sd', fd', pn', sk', fk', fa', fs', pX', pY', ho', aq', rl', hI', hP', fun post h => ?_, fun post h => ?_⟩
      · unfold wpX_step; refine am_X_al ht hM ha (br_f (by decide) (hbX _ pX (hd _ (br_t rfl (br_t hb ?_))))); simp (disch := omega) only [wpX_isCodeAddress, hp, nI_clamp, pk_us, am_uu, nI_1, nI_pred, am_ip, nI_add, am_m8, am_m4, vp_in_nI, true_and, and_true, forall_eq, true_implies, false_implies, not_true_eq_false, not_false_eq_true, am_ne_1_0, Int32.reduceLT, Int32.reduceLE]; exact hX' _ h
      · unfold wY_step_122; refine hbY _ pY (br_t hb ?_); simp (disch := omega) only [wY_step_154, hp, nI_clamp, pk_us, am_uu, nI_1, nI_pred, am_ip, nI_add, am_m8, am_m4, vp_in_nI, true_and, and_true, forall_eq, true_implies, false_implies, not_true_eq_false, not_false_eq_true, am_ne_1_0, Int32.reduceLT, Int32.reduceLE]; exact hY' _ h
    · have hz : ¬ pc t < 0 := am_nb (by omega) hp
      have hy : ¬ pc t < nI N := Int32.not_lt.mpr hp
      obtain ⟨st', pc', mk', ex', sd', fd', pn', sk', fk', fa', fs', pX', pY', ho', aq', rl', hI', hP', hX', hY'⟩ := am_raise (C := C) (Z := Z) (N := N) (co := co) (ca := ca) (pc := pc) (sk := sk) (fs := fs) (ho := ho) (aq := aq) (rl := rl) (e := -5) I P ht
      refine ⟨1, st', pc', mk', ex', sd', fd', pn', sk', fk', fa', fs', pX', pY', ho', aq', rl', hI', hP', fun post h => ?_, fun post h => ?_⟩
      · unfold wpX_step; refine am_X_al ht hM ha (br_f (by decide) (hbX _ pX (hd _ (br_t rfl (br_t hb ?_))))); simp (disch := omega) only [wpX_isCodeAddress, hp, hz, nI_clamp, pk_us, am_uu, nI_1, nI_pred, am_ip, nI_add, am_m8, am_m4, vp_in_nI, true_and, and_true, forall_eq, true_implies, false_implies, not_true_eq_false, not_false_eq_true, am_ne_1_0, Int32.reduceLT, Int32.reduceLE]; exact hX' _ h
      · unfold wY_step_122; refine hbY _ pY (br_t hb ?_); simp (disch := omega) only [wY_step_154, hz, hy, nI_clamp, pk_us, am_uu, nI_1, nI_pred, am_ip, nI_add, am_m8, am_m4, vp_in_nI, true_and, and_true, forall_eq, true_implies, false_implies, not_true_eq_false, not_false_eq_true, am_ne_1_0, Int32.reduceLT, Int32.reduceLE]; exact hY' _ h
    · have e1 : ¬ nI p < 0 := nI_pos (by omega)
      have e2 : ¬ nI N ≤ nI p := nI_ge hp (by omega)
      have e3 : nI p < nI N := nI_lt hp (by omega)
      obtain ⟨st', pc', mk', ex', sd', fd', pn', sk', fk', fa', fs', pX', pY', ho', aq', rl', hI', hP', hX', hY'⟩ := am_exec (C := C) (Z := Z) (N := N) (co := co) (ca := ca) (pc := pc) (sk := sk) (fs := fs) (ho := ho) (aq := aq) (rl := rl) I P ht hN hp hpc ha
      refine ⟨1, st', pc', mk', ex', sd', fd', pn', sk', fk', fa', fs', pX', pY', ho', aq', rl', hI', hP', fun post h => ?_, fun post h => ?_⟩
      · unfold wpX_step; refine am_X_al ht hM ha (br_f (by decide) (hbX _ pX (hd _ (br_t rfl (br_t hb ?_))))); simp (disch := omega) only [wpX_isCodeAddress, hpc, e1, e2, nI_clamp, pk_us, am_uu, nI_1, nI_pred, am_ip, nI_add, am_m8, am_m4, vp_in_nI, true_and, and_true, forall_eq, true_implies, false_implies, not_true_eq_false, not_false_eq_true, am_ne_1_0, Int32.reduceLT, Int32.reduceLE]; exact hX' _ h
      · unfold wY_step_122; refine hbY _ pY (br_t hb ?_); simp (disch := omega) only [wY_step_154, hpc, e1, e3, nI_clamp, pk_us, am_uu, nI_1, nI_pred, am_ip, nI_add, am_m8, am_m4, vp_in_nI, true_and, and_true, forall_eq, true_implies, false_implies, not_true_eq_false, not_false_eq_true, am_ne_1_0, Int32.reduceLT, Int32.reduceLE]; exact hY' _ h
  · refine ⟨2, st, pc, mk, ex, sd, fd, pn, sk, fk, fa, fs, pX, pY, ho, aq, rl, I, P, fun post h => ?_, fun post h => ?_⟩
    · unfold wpX_step
      exact am_X_al ht hM ha (br_f (by decide) (hbX _ pX (hd _ (br_t rfl (br_f hb h)))))
    · unfold wY_step_122
      exact hbY _ pY (br_f hb h)
theorem am_step (I : am_I M st mk ex sd fd pn fk fa) (P : am_P pn pX pY) (hN : N ≤ 64) (x : Int32) : am_OutR C Z N M co ca (fun post => wpX_step post (nI C, nI Z, nI N, nI M, co, ca, st, pc, mk, ex, sd, fd, pn, sk, fk, fa, fs, pX, ho, aq, rl) x) (fun post => wpY_step post (nI C, nI Z, nI N, nI M, co, ca, st, pc, mk, ex, sd, fd, pn, sk, fk, fa, fs, pY, ho, aq, rl) x) := by
  have hM := I.1
  rcases pk_ix x (n := M) (by omega) with q | q | ⟨t, ht, rfl⟩
  · refine ⟨0, st, pc, mk, ex, sd, fd, pn, sk, fk, fa, fs, pX, pY, ho, aq, rl, I, P, fun post h => ?_, fun post h => ?_⟩
    · simp only [wpX_step, wpX_isAlive, wpX_isThread, q, nI_clamp, pk_us, am_uu, nI_1, nI_pred, am_ip, nI_add, am_m8, am_m4, vp_in_nI, true_and, and_true, forall_eq, true_implies, false_implies, not_true_eq_false, not_false_eq_true, am_ne_1_0, Int32.reduceLT, Int32.reduceLE]
      exact h
    · exact br_t q h
  · have hz : ¬ x < 0 := am_nb (by omega) q
    refine ⟨0, st, pc, mk, ex, sd, fd, pn, sk, fk, fa, fs, pX, pY, ho, aq, rl, I, P, fun post h => ?_, fun post h => ?_⟩
    · simp only [wpX_step, wpX_isAlive, wpX_isThread, q, hz, nI_clamp, pk_us, am_uu, nI_1, nI_pred, am_ip, nI_add, am_m8, am_m4, vp_in_nI, true_and, and_true, forall_eq, true_implies, false_implies, not_true_eq_false, not_false_eq_true, am_ne_1_0, Int32.reduceLT, Int32.reduceLE]
      exact h
    · exact br_f hz (br_t q h)
  have e1 : ¬ nI t < 0 := nI_pos (by omega)
  have e2 : ¬ nI M ≤ nI t := nI_ge ht (by omega)
  by_cases ha : st t = 1
  case neg =>
    refine ⟨0, st, pc, mk, ex, sd, fd, pn, sk, fk, fa, fs, pX, pY, ho, aq, rl, I, P, fun post h => ?_, fun post h => ?_⟩
    · simp (disch := omega) only [wpX_step, wpX_isAlive, wpX_isThread, e1, e2, ha, nI_clamp, pk_us, am_uu, nI_1, nI_pred, am_ip, nI_add, am_m8, am_m4, vp_in_nI, true_and, and_true, forall_eq, true_implies, false_implies, not_true_eq_false, not_false_eq_true, am_ne_1_0, Int32.reduceLT, Int32.reduceLE]
      exact h
    · refine br_f e1 (br_f e2 ⟨vp_in_nI (by omega) (by omega), br_f ?_ h⟩)
      simp (disch := omega) only [nI_clamp]
      exact ha
  obtain ⟨b, hb, hbX, hbY⟩ := am_bl (C := C) (Z := Z) (co := co) (ca := ca) (pc := pc) (sk := sk) (fs := fs) (ho := ho) (aq := aq) (rl := rl) I ht hN
  obtain ⟨c, hc, hn⟩ := I.2.2.2.1 t
  have hyd : ∀ post : Int32 → SY → Prop, ((pn t ≤ 0 → wY_step_122 post (nI t) (nI C) (nI Z) (nI N) (nI M) co ca st pc mk ex sd fd pn sk fk fa fs pY ho aq rl) ∧ (¬ pn t ≤ 0 → ((mk t = 0 → wY_step_60 post (nI t) (nI C) (nI Z) (nI N) (nI M) co ca st pc mk ex sd fd pn sk fk fa fs pY ho aq rl) ∧ (¬ mk t = 0 → ((mk t = 1 → ((b = 0 → wY_step_122 post (nI t) (nI C) (nI Z) (nI N) (nI M) co ca st pc mk ex sd fd pn sk fk fa fs pY ho aq rl) ∧ (¬ b = 0 → wY_step_60 post (nI t) (nI C) (nI Z) (nI N) (nI M) co ca st pc mk ex sd fd pn sk fk fa fs pY ho aq rl))) ∧ (¬ mk t = 1 → wY_step_122 post (nI t) (nI C) (nI Z) (nI N) (nI M) co ca st pc mk ex sd fd pn sk fk fa fs pY ho aq rl)))))) → wpY_step post (nI C, nI Z, nI N, nI M, co, ca, st, pc, mk, ex, sd, fd, pn, sk, fk, fa, fs, pY, ho, aq, rl) (nI t) := by
    intro post h
    unfold wpY_step
    refine br_f e1 (br_f e2 ⟨vp_in_nI (by omega) (by omega), ?_⟩)
    simp (disch := omega) only [ha, nI_clamp, pk_us, am_uu, nI_1, nI_pred, am_ip, nI_add, am_m8, am_m4, vp_in_nI, true_and, and_true, forall_eq, true_implies, false_implies, not_true_eq_false, not_false_eq_true, am_ne_1_0, Int32.reduceLT, Int32.reduceLE]
    refine ⟨h.1, fun z => ⟨(h.2 z).1, fun y => ⟨fun w => hbY _ pY (((h.2 z).2 y).1 w), ((h.2 z).2 y).2⟩⟩⟩
  have fin : ∀ {WY : (Int32 → SY → Prop) → Prop}, am_OutR C Z N M co ca (fun post => wpX_step post (nI C, nI Z, nI N, nI M, co, ca, st, pc, mk, ex, sd, fd, pn, sk, fk, fa, fs, pX, ho, aq, rl) (nI t)) WY → (∀ post, WY post → wpY_step post (nI C, nI Z, nI N, nI M, co, ca, st, pc, mk, ex, sd, fd, pn, sk, fk, fa, fs, pY, ho, aq, rl) (nI t)) → am_OutR C Z N M co ca (fun post => wpX_step post (nI C, nI Z, nI N, nI M, co, ca, st, pc, mk, ex, sd, fd, pn, sk, fk, fa, fs, pX, ho, aq, rl) (nI t)) (fun post => wpY_step post (nI C, nI Z, nI N, nI M, co, ca, st, pc, mk, ex, sd, fd, pn, sk, fk, fa, fs, pY, ho, aq, rl) (nI t)) := by
    intro WY h g
    obtain ⟨r, st', pc', mk', ex', sd', fd', pn', sk', fk', fa', fs', pX', pY', ho', aq', rl', hI', hP', hX', hY'⟩ := h
    exact ⟨r, st', pc', mk', ex', sd', fd', pn', sk', fk', fa', fs', pX', pY', ho', aq', rl', hI', hP', hX', fun post h => g post (hY' post h)⟩
  cases c with
  | zero =>
    refine fin (am_nodel I P ht hN ha (b := b) (fun post h => ?_) hbX hbY) (fun post h => hyd post (br_t ?_ h))
    · simp (disch := omega) only [wpX_isDeliveryDue, hn, nI_0, nI_clamp, pk_us, am_uu, nI_1, nI_pred, am_ip, nI_add, am_m8, am_m4, vp_in_nI, true_and, and_true, forall_eq, true_implies, false_implies, not_true_eq_false, not_false_eq_true, am_ne_1_0, Int32.reduceLT, Int32.reduceLE]
      exact h
    · rw [hn]
      decide
  | succ c =>
    have e0 : ¬ nI (c + 1) = 0 := nI_ne0 (by omega) (by omega)
    have e3 : ¬ pn t ≤ 0 := by
      rw [hn]
      exact nI_nle (by omega) (by omega)
    by_cases m0 : mk t = 0
    · exact fin (am_del I P ht ha (b := b) (by omega) hn (Or.inl m0) hbX) (fun post h => hyd post (br_f e3 (br_t m0 h)))
    by_cases m1 : mk t = 1
    · by_cases hb0 : b = 0
      · refine fin (am_nodel I P ht hN ha (b := b) (fun post h => ?_) hbX hbY) (fun post h => hyd post (br_f e3 (br_f m0 (br_t m1 (br_t hb0 h)))))
        simp (disch := omega) only [wpX_isDeliveryDue, hn, e0, m1, hb0, nI_clamp, pk_us, am_uu, nI_1, nI_pred, am_ip, nI_add, am_m8, am_m4, vp_in_nI, true_and, and_true, forall_eq, true_implies, false_implies, not_true_eq_false, not_false_eq_true, am_ne_1_0, Int32.reduceLT, Int32.reduceLE]
        exact h
      · exact fin (am_del I P ht ha (b := b) (by omega) hn (Or.inr ⟨m1, hb0⟩) hbX) (fun post h => hyd post (br_f e3 (br_f m0 (br_t m1 (br_f hb0 h)))))
    · refine fin (am_nodel I P ht hN ha (b := b) (fun post h => ?_) hbX hbY) (fun post h => hyd post (br_f e3 (br_f m0 (br_f m1 h))))
      simp (disch := omega) only [wpX_isDeliveryDue, hn, e0, m0, m1, nI_clamp, pk_us, am_uu, nI_1, nI_pred, am_ip, nI_add, am_m8, am_m4, vp_in_nI, true_and, and_true, forall_eq, true_implies, false_implies, not_true_eq_false, not_false_eq_true, am_ne_1_0, Int32.reduceLT, Int32.reduceLE]
      exact h
end
end
section
def i_Rel (_ : Nat) (u : SX) (v : SY) : Prop := ∃ (C Z N M : Nat) (co ca st pc mk ex sd fd pn sk fk fa fs pX pY ho aq rl : Nat → Int32), u = (nI C, nI Z, nI N, nI M, co, ca, st, pc, mk, ex, sd, fd, pn, sk, fk, fa, fs, pX, ho, aq, rl) ∧ v = (nI C, nI Z, nI N, nI M, co, ca, st, pc, mk, ex, sd, fd, pn, sk, fk, fa, fs, pY, ho, aq, rl) ∧ C ≤ 4 ∧ Z ≤ 64 ∧ N ≤ Z ∧ M ≤ C ∧ am_I M st mk ex sd fd pn fk fa ∧ am_P pn pX pY
theorem i_up {k : Nat} {u : SX} {v : SY} (h : i_Rel k u v) : i_Rel (k + 4) u v := h
theorem am_no2 {Q : Prop} (x : Int32) (g0 : ¬ x < 0) (g1 : ¬ 2 < x) (f0 : ¬ x = 0) (f1 : ¬ x = 1) (f2 : ¬ x = 2) : Q := by
  obtain ⟨j, hj, rfl⟩ := nI_of2 (M := 2) (n := 2) (by decide) g0 (Int32.not_lt.mp g1)
  have h0 : j ≠ 0 := fun e => f0 (by rw [e]; rfl)
  have h1 : j ≠ 1 := fun e => f1 (by rw [e]; rfl)
  have h2 : j ≠ 2 := fun e => f2 (by rw [e]; rfl)
  omega
theorem am_no7 {Q : Prop} (x : Int32) (g0 : ¬ x < 0) (g1 : ¬ 7 < x) (f0 : ¬ x = 0) (f1 : ¬ x = 1) (f2 : ¬ x = 2) (f3 : ¬ x = 3) (f4 : ¬ x = 4) (f5 : ¬ x = 5) (f6 : ¬ x = 6) (f7 : ¬ x = 7) : Q := by
  obtain ⟨j, hj, rfl⟩ := nI_of2 (M := 7) (n := 7) (by decide) g0 (Int32.not_lt.mp g1)
  have h0 : j ≠ 0 := fun e => f0 (by rw [e]; rfl)
  have h1 : j ≠ 1 := fun e => f1 (by rw [e]; rfl)
  have h2 : j ≠ 2 := fun e => f2 (by rw [e]; rfl)
  have h3 : j ≠ 3 := fun e => f3 (by rw [e]; rfl)
  have h4 : j ≠ 4 := fun e => f4 (by rw [e]; rfl)
  have h5 : j ≠ 5 := fun e => f5 (by rw [e]; rfl)
  have h6 : j ≠ 6 := fun e => f6 (by rw [e]; rfl)
  have h7 : j ≠ 7 := fun e => f7 (by rw [e]; rfl)
  omega
def am_h : Nat → Nat → Int32
  | 0 => fun _ => 0
  | i + 1 => upd (am_h i) i (-1)
theorem am_X_ini {a b : Int32} {post : SX → Prop} (h : post (a, b, 0, 0, (fun _ => 0), (fun _ => 0), (fun _ => 0), (fun _ => 0), (fun _ => 0), (fun _ => 0), (fun _ => 0), (fun _ => 0), (fun _ => 0), (fun _ => 0), (fun _ => 0), (fun _ => 0), (fun _ => 0), (fun _ => 0), am_h 8, (fun _ => 0), (fun _ => 0))) : ∀ m i f, i + m = 8 → m < f → wX_init_167 post a b 0 0 f (nI i) (fun _ => 0) (fun _ => 0) (fun _ => 0) (fun _ => 0) (fun _ => 0) (fun _ => 0) (fun _ => 0) (fun _ => 0) (fun _ => 0) (fun _ => 0) (fun _ => 0) (fun _ => 0) (fun _ => 0) (fun _ => 0) (am_h i) (fun _ => 0) (fun _ => 0) := by
  intro m
  induction m with
  | zero =>
    intro i f hi hf
    obtain ⟨f, rfl⟩ : ∃ g, f = g + 1 := ⟨f - 1, by omega⟩
    obtain rfl : i = 8 := by omega
    rw [wX_init_167]
    exact br_t (by decide) h
  | succ m ih =>
    intro i f hi hf
    obtain ⟨f, rfl⟩ : ∃ g, f = g + 1 := ⟨f - 1, by omega⟩
    rw [wX_init_167]
    refine br_f (nI_ge (b := 8) (by omega) (by omega)) ?_
    simp (disch := omega) only [nI_clamp, pk_us, am_uu, nI_1, nI_pred, am_ip, nI_add, am_m8, am_m4, vp_in_nI, true_and, and_true, forall_eq, true_implies, false_implies, not_true_eq_false, not_false_eq_true, am_ne_1_0, Int32.reduceLT, Int32.reduceLE]
    exact ih (i + 1) f (by omega) (by omega)
theorem am_Y_ini {a b : Int32} {post : SY → Prop} (h : post (a, b, 0, 0, (fun _ => 0), (fun _ => 0), (fun _ => 0), (fun _ => 0), (fun _ => 0), (fun _ => 0), (fun _ => 0), (fun _ => 0), (fun _ => 0), (fun _ => 0), (fun _ => 0), (fun _ => 0), (fun _ => 0), (fun _ => 0), am_h 8, (fun _ => 0), (fun _ => 0))) : ∀ m i f, i + m = 8 → m < f → wY_init_185 post a b 0 0 f (nI i) (fun _ => 0) (fun _ => 0) (fun _ => 0) (fun _ => 0) (fun _ => 0) (fun _ => 0) (fun _ => 0) (fun _ => 0) (fun _ => 0) (fun _ => 0) (fun _ => 0) (fun _ => 0) (fun _ => 0) (fun _ => 0) (am_h i) (fun _ => 0) (fun _ => 0) := by
  intro m
  induction m with
  | zero =>
    intro i f hi hf
    obtain ⟨f, rfl⟩ : ∃ g, f = g + 1 := ⟨f - 1, by omega⟩
    obtain rfl : i = 8 := by omega
    rw [wY_init_185]
    exact br_t (by decide) h
  | succ m ih =>
    intro i f hi hf
    obtain ⟨f, rfl⟩ : ∃ g, f = g + 1 := ⟨f - 1, by omega⟩
    rw [wY_init_185]
    refine br_f (nI_ge (b := 8) (by omega) (by omega)) ?_
    simp (disch := omega) only [nI_clamp, pk_us, am_uu, nI_1, nI_pred, am_ip, nI_add, am_m8, am_m4, vp_in_nI, true_and, and_true, forall_eq, true_implies, false_implies, not_true_eq_false, not_false_eq_true, am_ne_1_0, Int32.reduceLT, Int32.reduceLE]
    exact ih (i + 1) f (by omega) (by omega)
theorem am_ini {a b : Int32} {c z : Nat} (ha : a = nI c) (hb : b = nI z) (hc : c ≤ 4) (hz : z ≤ 64) : i_Rel 2 (a, b, 0, 0, (fun _ => 0), (fun _ => 0), (fun _ => 0), (fun _ => 0), (fun _ => 0), (fun _ => 0), (fun _ => 0), (fun _ => 0), (fun _ => 0), (fun _ => 0), (fun _ => 0), (fun _ => 0), (fun _ => 0), (fun _ => 0), am_h 8, (fun _ => 0), (fun _ => 0)) (a, b, 0, 0, (fun _ => 0), (fun _ => 0), (fun _ => 0), (fun _ => 0), (fun _ => 0), (fun _ => 0), (fun _ => 0), (fun _ => 0), (fun _ => 0), (fun _ => 0), (fun _ => 0), (fun _ => 0), (fun _ => 0), (fun _ => 0), am_h 8, (fun _ => 0), (fun _ => 0)) := by
  subst ha hb
  refine ⟨c, z, 0, 0, _, _, _, _, _, _, _, _, _, _, _, _, _, _, _, _, _, _, rfl, rfl, hc, hz, by omega, by omega, ⟨by omega, fun _ => ⟨0, by omega, rfl⟩, fun _ => ⟨0, by omega, rfl⟩, fun _ => ⟨0, by omega, rfl⟩, fun j hj => ?_, fun _ _ => rfl, fun _ _ => rfl, fun _ _ => rfl, fun _ _ => rfl, fun _ _ => rfl, fun _ _ => rfl⟩, fun _ _ _ _ _ _ _ => rfl⟩
  exact absurd (show (0 : Int32) = 3 from hj) (by decide)
theorem am_cl {x a b : Int32} {m n : Nat} (ha : a = nI m) (hb : b = nI n) (hmn : m ≤ n) (hn : n < 2 ^ 31) : ∃ c : Nat, c ≤ n ∧ ((¬ a ≤ x ∧ nI c = a) ∨ (a ≤ x ∧ ¬ x ≤ b ∧ nI c = b) ∨ (a ≤ x ∧ x ≤ b ∧ nI c = x)) := by
  by_cases h : a ≤ x
  · by_cases g : x ≤ b
    · obtain ⟨j, hj, rfl⟩ := nI_of (x := x) (fun z => absurd (Int32.lt_of_le_of_lt h z) (by rw [ha]; exact nI_pos (by omega)))
      rw [hb, nI_leI hj hn] at g
      exact ⟨j, g, Or.inr (Or.inr ⟨h, by rw [hb]; exact nI_le g hn, rfl⟩)⟩
    · exact ⟨n, Nat.le_refl n, Or.inr (Or.inl ⟨h, g, hb.symm⟩)⟩
  · exact ⟨m, hmn, Or.inl ⟨h, ha.symm⟩⟩
theorem am_vX {x a b : Int32} {c : Nat} (h : (¬ a ≤ x ∧ nI c = a) ∨ (a ≤ x ∧ ¬ x ≤ b ∧ nI c = b) ∨ (a ≤ x ∧ x ≤ b ∧ nI c = x)) {post : Int32 → Prop} (hp : post (nI c)) : wpX_clamp post x a b := by
  rcases h with ⟨h1, h2⟩ | ⟨h1, h2, h3⟩ | ⟨h1, h2, h3⟩
  · exact br_f h1 (h2 ▸ hp)
  · exact br_t h1 (br_f h2 (h3 ▸ hp))
  · exact br_t h1 (br_t h2 (h3 ▸ hp))
theorem i_vc0 (k0 : Int32) (k1 : Int32) : wpX_init (fun u => wpY_init (fun v => i_Rel 2 u v) k0 k1) k0 k1 := by
  obtain ⟨c, hc, Hc⟩ := am_cl (x := k0) (a := 2) (b := 4) (m := 2) (n := 4) rfl rfl (by omega) (by omega)
  obtain ⟨z, hz, Hz⟩ := am_cl (x := k1) (a := 8) (b := 64) (m := 8) (n := 64) rfl rfl (by omega) (by omega)
  have R := am_ini (a := nI c) (b := nI z) rfl rfl hc hz
  have Y : wpY_init (fun v => i_Rel 2 (nI c, nI z, 0, 0, (fun _ => 0), (fun _ => 0), (fun _ => 0), (fun _ => 0), (fun _ => 0), (fun _ => 0), (fun _ => 0), (fun _ => 0), (fun _ => 0), (fun _ => 0), (fun _ => 0), (fun _ => 0), (fun _ => 0), (fun _ => 0), am_h 8, (fun _ => 0), (fun _ => 0)) v) k0 k1 := by
    have L := am_Y_ini R 8 0 9 (by omega) (by omega)
    have K : ∀ y : Int32, y = nI c → wY_init_153 (fun v => i_Rel 2 (nI c, nI z, 0, 0, (fun _ => 0), (fun _ => 0), (fun _ => 0), (fun _ => 0), (fun _ => 0), (fun _ => 0), (fun _ => 0), (fun _ => 0), (fun _ => 0), (fun _ => 0), (fun _ => 0), (fun _ => 0), (fun _ => 0), (fun _ => 0), am_h 8, (fun _ => 0), (fun _ => 0)) v) k1 y 0 0 0 0 (fun _ => 0) (fun _ => 0) (fun _ => 0) (fun _ => 0) (fun _ => 0) (fun _ => 0) (fun _ => 0) (fun _ => 0) (fun _ => 0) (fun _ => 0) (fun _ => 0) (fun _ => 0) (fun _ => 0) (fun _ => 0) (fun _ => 0) (fun _ => 0) (fun _ => 0) := by
      intro y ey
      subst ey
      rcases Hz with ⟨h1, h2⟩ | ⟨h1, h2, h3⟩ | ⟨h1, h2, h3⟩
      · exact br_f h1 ⟨9, h2 ▸ L⟩
      · exact br_t h1 (br_f h2 ⟨9, h3 ▸ L⟩)
      · exact br_t h1 (br_t h2 ⟨9, h3 ▸ L⟩)
    rcases Hc with ⟨h1, h2⟩ | ⟨h1, h2, h3⟩ | ⟨h1, h2, h3⟩
    · exact br_f h1 (K _ h2.symm)
    · exact br_t h1 (br_f h2 (K _ h3.symm))
    · exact br_t h1 (br_t h2 (K _ h3.symm))
  unfold wpX_init
  refine am_vX Hc (am_vX Hz ⟨9, ?_⟩)
  exact am_X_ini Y 8 0 9 (by omega) (by omega)
theorem i_vc_load {k : Nat} {u : SX} {v : SY} (I : i_Rel k u v) (hk : k + 4 ≤ 2050) (v1 : Int32) (v2 : Int32) : wpX_load (fun r u' => wpY_load (fun r' v' => r' = r ∧ i_Rel (k + 4) u' v') v v1 v2) u v1 v2 := by
  obtain ⟨C, Z, N, M, co, ca, st, pc, mk, ex, sd, fd, pn, sk, fk, fa, fs, pX, pY, ho, aq, rl, rfl, rfl, hC, hZ, hN, hM, I, P⟩ := I
  have R : i_Rel (k + 4) (nI C, nI Z, nI N, nI M, co, ca, st, pc, mk, ex, sd, fd, pn, sk, fk, fa, fs, pX, ho, aq, rl) (nI C, nI Z, nI N, nI M, co, ca, st, pc, mk, ex, sd, fd, pn, sk, fk, fa, fs, pY, ho, aq, rl) := ⟨C, Z, N, M, co, ca, st, pc, mk, ex, sd, fd, pn, sk, fk, fa, fs, pX, pY, ho, aq, rl, rfl, rfl, hC, hZ, hN, hM, I, P⟩
  by_cases e : N = Z
  · subst e
    exact br_t rfl (br_t rfl ⟨rfl, R⟩)
  have e1 : ¬ nI N = nI Z := fun q => e ((nI_eq (by omega) (by omega)).mp q)
  by_cases h0 : v1 < 0
  · exact br_f e1 (br_t h0 (br_f e1 (br_t h0 ⟨rfl, R⟩)))
  by_cases h1 : v1 ≤ 15
  · have hi : vp_in (nI N) 64 := vp_in_nI (by omega) (by omega)
    refine br_f e1 (br_f h0 (br_t h1 ⟨hi, nm_e ⟨hi, nm_e (nm_r (nI_1 N) ?_)⟩⟩))
    refine br_f e1 (br_f h0 (br_t h1 ⟨hi, nm_e ⟨hi, nm_e (nm_r (nI_1 N) ⟨rfl, ?_⟩)⟩⟩))
    exact ⟨C, Z, N + 1, M, _, _, st, pc, mk, ex, sd, fd, pn, sk, fk, fa, fs, pX, pY, ho, aq, rl, rfl, rfl, hC, hZ, by omega, hM, I, P⟩
  · exact br_f e1 (br_f h0 (br_f h1 (br_f e1 (br_f h0 (br_f h1 ⟨rfl, R⟩)))))
theorem i_vc_spawn {k : Nat} {u : SX} {v : SY} (I : i_Rel k u v) (hk : k + 4 ≤ 2050) (v1 : Int32) : wpX_spawn (fun r u' => wpY_spawn (fun r' v' => r' = r ∧ i_Rel (k + 4) u' v') v v1) u v1 := by
  obtain ⟨C, Z, N, M, co, ca, st, pc, mk, ex, sd, fd, pn, sk, fk, fa, fs, pX, pY, ho, aq, rl, rfl, rfl, hC, hZ, hN, hM, I, P⟩ := I
  have R : i_Rel (k + 4) (nI C, nI Z, nI N, nI M, co, ca, st, pc, mk, ex, sd, fd, pn, sk, fk, fa, fs, pX, ho, aq, rl) (nI C, nI Z, nI N, nI M, co, ca, st, pc, mk, ex, sd, fd, pn, sk, fk, fa, fs, pY, ho, aq, rl) := ⟨C, Z, N, M, co, ca, st, pc, mk, ex, sd, fd, pn, sk, fk, fa, fs, pX, pY, ho, aq, rl, rfl, rfl, hC, hZ, hN, hM, I, P⟩
  by_cases e : M = C
  · subst e
    exact br_t rfl (br_t rfl ⟨rfl, R⟩)
  have e1 : ¬ nI M = nI C := fun q => e ((nI_eq (by omega) (by omega)).mp q)
  have hi : vp_in (nI M) 4 := vp_in_nI (by omega) (by omega)
  have hz : ∀ {a : Nat → Int32}, am_Z M a → upd a M 0 = a := fun h => am_uk (h M (Nat.le_refl M))
  obtain ⟨h1, h2, h3, h4, h5, h6, h7, h8, h9, h10, h11⟩ := id I
  have J := am_I_sp I (by omega)
  have S1 : i_Rel (k + 4) (nI C, nI Z, nI N, nI (M + 1), co, ca, (upd st M 1), (upd pc M v1), mk, ex, sd, fd, pn, sk, fk, fa, fs, pX, ho, aq, rl) (nI C, nI Z, nI N, nI (M + 1), co, ca, (upd st M 1), (upd pc M v1), mk, ex, sd, fd, pn, sk, fk, fa, fs, pY, ho, aq, rl) := ⟨C, Z, N, M + 1, co, ca, (upd st M 1), (upd pc M v1), mk, ex, sd, fd, pn, sk, fk, fa, fs, pX, pY, ho, aq, rl, rfl, rfl, hC, hZ, hN, by omega, J, P⟩
  have Y : ∀ post : Int32 → SY → Prop, post (nI M) (nI C, nI Z, nI N, nI (M + 1), co, ca, (upd st M 1), (upd pc M v1), mk, ex, sd, fd, pn, sk, fk, fa, fs, pY, ho, aq, rl) → wpY_spawn post (nI C, nI Z, nI N, nI M, co, ca, st, pc, mk, ex, sd, fd, pn, sk, fk, fa, fs, pY, ho, aq, rl) v1 := by
    intro post h
    simp (disch := omega) only [wpY_spawn, e1, hz h7, hz h8, hz h9, hz h10, hz h11, nI_clamp, pk_us, am_uu, nI_1, nI_pred, am_ip, nI_add, am_m8, am_m4, vp_in_nI, true_and, and_true, forall_eq, true_implies, false_implies, not_true_eq_false, not_false_eq_true, am_ne_1_0, Int32.reduceLT, Int32.reduceLE]
    exact h
  have X : ∀ post : Int32 → SX → Prop, post (nI M) (nI C, nI Z, nI N, nI (M + 1), co, ca, (upd st M 1), (upd pc M v1), mk, ex, sd, fd, pn, sk, fk, fa, fs, pX, ho, aq, rl) → wpX_spawn post (nI C, nI Z, nI N, nI M, co, ca, st, pc, mk, ex, sd, fd, pn, sk, fk, fa, fs, pX, ho, aq, rl) v1 := by
    intro post h
    simp (disch := omega) only [wpX_spawn, e1, nI_clamp, pk_us, am_uu, nI_1, nI_pred, am_ip, nI_add, am_m8, am_m4, vp_in_nI, true_and, and_true, forall_eq, true_implies, false_implies, not_true_eq_false, not_false_eq_true, am_ne_1_0, Int32.reduceLT, Int32.reduceLE]
    exact h
  exact X _ (Y _ ⟨rfl, S1⟩)
theorem i_vc_step {k : Nat} {u : SX} {v : SY} (I : i_Rel k u v) (hk : k + 4 ≤ 2050) (v1 : Int32) : wpX_step (fun r u' => wpY_step (fun r' v' => r' = r ∧ i_Rel (k + 4) u' v') v v1) u v1 := by
  obtain ⟨C, Z, N, M, co, ca, st, pc, mk, ex, sd, fd, pn, sk, fk, fa, fs, pX, pY, ho, aq, rl, rfl, rfl, hC, hZ, hN, hM, I, P⟩ := I
  obtain ⟨r, st', pc', mk', ex', sd', fd', pn', sk', fk', fa', fs', pX', pY', ho', aq', rl', hI', hP', hX', hY'⟩ := am_step (C := C) (Z := Z) (N := N) (co := co) (ca := ca) (pc := pc) (sk := sk) (fs := fs) (ho := ho) (aq := aq) (rl := rl) I P (by omega) v1
  exact hX' _ (hY' _ ⟨rfl, C, Z, N, M, co, ca, st', pc', mk', ex', sd', fd', pn', sk', fk', fa', fs', pX', pY', ho', aq', rl', rfl, rfl, hC, hZ, hN, hM, hI', hP'⟩)
theorem i_vc_throwTo {k : Nat} {u : SX} {v : SY} (I : i_Rel k u v) (hk : k + 4 ≤ 2050) (v1 : Int32) (v2 : Int32) : wpX_throwTo (fun r u' => wpY_throwTo (fun r' v' => r' = r ∧ i_Rel (k + 4) u' v') v v1 v2) u v1 v2 := by
  obtain ⟨C, Z, N, M, co, ca, st, pc, mk, ex, sd, fd, pn, sk, fk, fa, fs, pX, pY, ho, aq, rl, rfl, rfl, hC, hZ, hN, hM, I, P⟩ := I
  have R : i_Rel (k + 4) (nI C, nI Z, nI N, nI M, co, ca, st, pc, mk, ex, sd, fd, pn, sk, fk, fa, fs, pX, ho, aq, rl) (nI C, nI Z, nI N, nI M, co, ca, st, pc, mk, ex, sd, fd, pn, sk, fk, fa, fs, pY, ho, aq, rl) := ⟨C, Z, N, M, co, ca, st, pc, mk, ex, sd, fd, pn, sk, fk, fa, fs, pX, pY, ho, aq, rl, rfl, rfl, hC, hZ, hN, hM, I, P⟩
  have fin : ∀ r : Int32, (∀ post : Int32 → SX → Prop, post r (nI C, nI Z, nI N, nI M, co, ca, st, pc, mk, ex, sd, fd, pn, sk, fk, fa, fs, pX, ho, aq, rl) → wpX_throwTo post (nI C, nI Z, nI N, nI M, co, ca, st, pc, mk, ex, sd, fd, pn, sk, fk, fa, fs, pX, ho, aq, rl) v1 v2) → (∀ post : Int32 → SY → Prop, post r (nI C, nI Z, nI N, nI M, co, ca, st, pc, mk, ex, sd, fd, pn, sk, fk, fa, fs, pY, ho, aq, rl) → wpY_throwTo post (nI C, nI Z, nI N, nI M, co, ca, st, pc, mk, ex, sd, fd, pn, sk, fk, fa, fs, pY, ho, aq, rl) v1 v2) → wpX_throwTo (fun r u' => wpY_throwTo (fun r' v' => r' = r ∧ i_Rel (k + 4) u' v') (nI C, nI Z, nI N, nI M, co, ca, st, pc, mk, ex, sd, fd, pn, sk, fk, fa, fs, pY, ho, aq, rl) v1 v2) (nI C, nI Z, nI N, nI M, co, ca, st, pc, mk, ex, sd, fd, pn, sk, fk, fa, fs, pX, ho, aq, rl) v1 v2 := fun r hX hY => hX _ (hY _ ⟨rfl, R⟩)
  rcases pk_ix v1 (n := M) (by omega) with q | q | ⟨t, ht, rfl⟩
  · refine fin 0 (fun post h => ?_) (fun post h => br_t q h)
    simp only [wpX_throwTo, wpX_isAlive, wpX_isThread, q, nI_clamp, pk_us, am_uu, nI_1, nI_pred, am_ip, nI_add, am_m8, am_m4, vp_in_nI, true_and, and_true, forall_eq, true_implies, false_implies, not_true_eq_false, not_false_eq_true, am_ne_1_0, Int32.reduceLT, Int32.reduceLE]
    exact h
  · have hz : ¬ v1 < 0 := am_nb (by omega) q
    refine fin 0 (fun post h => ?_) (fun post h => br_f hz (br_f (Int32.not_lt.mpr q) h))
    simp only [wpX_throwTo, wpX_isAlive, wpX_isThread, q, hz, nI_clamp, pk_us, am_uu, nI_1, nI_pred, am_ip, nI_add, am_m8, am_m4, vp_in_nI, true_and, and_true, forall_eq, true_implies, false_implies, not_true_eq_false, not_false_eq_true, am_ne_1_0, Int32.reduceLT, Int32.reduceLE]
    exact h
  have e1 : ¬ nI t < 0 := nI_pos (by omega)
  have e2 : ¬ nI M ≤ nI t := nI_ge ht (by omega)
  have e3 : nI t < nI M := nI_lt ht (by omega)
  by_cases ha : st t = 1
  case neg =>
    refine fin 0 (fun post h => ?_) (fun post h => ?_)
    · simp (disch := omega) only [wpX_throwTo, wpX_isAlive, wpX_isThread, e1, e2, ha, nI_clamp, pk_us, am_uu, nI_1, nI_pred, am_ip, nI_add, am_m8, am_m4, vp_in_nI, true_and, and_true, forall_eq, true_implies, false_implies, not_true_eq_false, not_false_eq_true, am_ne_1_0, Int32.reduceLT, Int32.reduceLE]
      exact h
    · simp (disch := omega) only [wpY_throwTo, e1, e3, ha, nI_clamp, pk_us, am_uu, nI_1, nI_pred, am_ip, nI_add, am_m8, am_m4, vp_in_nI, true_and, and_true, forall_eq, true_implies, false_implies, not_true_eq_false, not_false_eq_true, am_ne_1_0, Int32.reduceLT, Int32.reduceLE]
      exact h
  obtain ⟨c, hc, hn⟩ := I.2.2.2.1 t
  by_cases c4 : c = 4
  · subst c4
    have hn : pn t = 4 := hn
    refine fin 0 (fun post h => ?_) (fun post h => ?_)
    · simp (disch := omega) only [wpX_throwTo, wpX_isAlive, wpX_isThread, wpX_appendPending, e1, e2, ha, hn, nI_clamp, pk_us, am_uu, nI_1, nI_pred, am_ip, nI_add, am_m8, am_m4, vp_in_nI, true_and, and_true, forall_eq, true_implies, false_implies, not_true_eq_false, not_false_eq_true, am_ne_1_0, Int32.reduceLT, Int32.reduceLE]
      exact h
    · simp (disch := omega) only [wpY_throwTo, e1, e3, ha, hn, nI_clamp, pk_us, am_uu, nI_1, nI_pred, am_ip, nI_add, am_m8, am_m4, vp_in_nI, true_and, and_true, forall_eq, true_implies, false_implies, not_true_eq_false, not_false_eq_true, am_ne_1_0, Int32.reduceLT, Int32.reduceLE]
      exact h
  have e4 : ¬ nI c = 4 := fun q => by rw [am_eq4 (by omega)] at q; omega
  have X : ∀ post : Int32 → SX → Prop, post 1 (nI C, nI Z, nI N, nI M, co, ca, st, pc, mk, ex, sd, fd, (upd pn t (nI (c + 1))), sk, fk, fa, fs, (upd pX (t * 4 + c) v2), ho, aq, rl) → wpX_throwTo post (nI C, nI Z, nI N, nI M, co, ca, st, pc, mk, ex, sd, fd, pn, sk, fk, fa, fs, pX, ho, aq, rl) (nI t) v2 := by
    intro post h
    simp (disch := omega) only [wpX_throwTo, wpX_isAlive, wpX_isThread, wpX_appendPending, e1, e2, e4, ha, hn, nI_clamp, pk_us, am_uu, nI_1, nI_pred, am_ip, nI_add, am_m8, am_m4, vp_in_nI, true_and, and_true, forall_eq, true_implies, false_implies, not_true_eq_false, not_false_eq_true, am_ne_1_0, Int32.reduceLT, Int32.reduceLE]
    exact h
  have Y : ∀ post : Int32 → SY → Prop, post 1 (nI C, nI Z, nI N, nI M, co, ca, st, pc, mk, ex, sd, fd, (upd pn t (nI (c + 1))), sk, fk, fa, fs, (upd pY (t * 4 + c) v2), ho, aq, rl) → wpY_throwTo post (nI C, nI Z, nI N, nI M, co, ca, st, pc, mk, ex, sd, fd, pn, sk, fk, fa, fs, pY, ho, aq, rl) (nI t) v2 := by
    intro post h
    simp (disch := omega) only [wpY_throwTo, e1, e3, e4, ha, hn, nI_clamp, pk_us, am_uu, nI_1, nI_pred, am_ip, nI_add, am_m8, am_m4, vp_in_nI, true_and, and_true, forall_eq, true_implies, false_implies, not_true_eq_false, not_false_eq_true, am_ne_1_0, Int32.reduceLT, Int32.reduceLE]
    exact h
  exact X _ (Y _ ⟨rfl, C, Z, N, M, co, ca, st, pc, mk, ex, sd, fd, (upd pn t (nI (c + 1))), sk, fk, fa, fs, (upd pX (t * 4 + c) v2), (upd pY (t * 4 + c) v2), ho, aq, rl, rfl, rfl, hC, hZ, hN, hM, am_I_pn I ht (by omega), am_P_app P (by omega) (by omega) hn⟩)
theorem i_vc_getThreadCount {k : Nat} {u : SX} {v : SY} (I : i_Rel k u v) (hk : k + 4 ≤ 2050) : wpX_getThreadCount (fun r => wpY_getThreadCount (fun r' => r' = r ∧ i_Rel (k + 4) u v) v) u := by
  obtain ⟨C, Z, N, M, co, ca, st, pc, mk, ex, sd, fd, pn, sk, fk, fa, fs, pX, pY, ho, aq, rl, rfl, rfl, hC, hZ, hN, hM, I, P⟩ := I
  exact ⟨rfl, C, Z, N, M, co, ca, st, pc, mk, ex, sd, fd, pn, sk, fk, fa, fs, pX, pY, ho, aq, rl, rfl, rfl, hC, hZ, hN, hM, I, P⟩
theorem i_vc_getCodeSize {k : Nat} {u : SX} {v : SY} (I : i_Rel k u v) (hk : k + 4 ≤ 2050) : wpX_getCodeSize (fun r => wpY_getCodeSize (fun r' => r' = r ∧ i_Rel (k + 4) u v) v) u := by
  obtain ⟨C, Z, N, M, co, ca, st, pc, mk, ex, sd, fd, pn, sk, fk, fa, fs, pX, pY, ho, aq, rl, rfl, rfl, hC, hZ, hN, hM, I, P⟩ := I
  exact ⟨rfl, C, Z, N, M, co, ca, st, pc, mk, ex, sd, fd, pn, sk, fk, fa, fs, pX, pY, ho, aq, rl, rfl, rfl, hC, hZ, hN, hM, I, P⟩
theorem i_vc_getStack {k : Nat} {u : SX} {v : SY} (I : i_Rel k u v) (hk : k + 4 ≤ 2050) (v1 : Int32) (v2 : Int32) : wpX_getStack (fun r => wpY_getStack (fun r' => r' = r ∧ i_Rel (k + 4) u v) v v1 v2) u v1 v2 := by
  obtain ⟨C, Z, N, M, co, ca, st, pc, mk, ex, sd, fd, pn, sk, fk, fa, fs, pX, pY, ho, aq, rl, rfl, rfl, hC, hZ, hN, hM, I, P⟩ := I
  have R : i_Rel (k + 4) (nI C, nI Z, nI N, nI M, co, ca, st, pc, mk, ex, sd, fd, pn, sk, fk, fa, fs, pX, ho, aq, rl) (nI C, nI Z, nI N, nI M, co, ca, st, pc, mk, ex, sd, fd, pn, sk, fk, fa, fs, pY, ho, aq, rl) := ⟨C, Z, N, M, co, ca, st, pc, mk, ex, sd, fd, pn, sk, fk, fa, fs, pX, pY, ho, aq, rl, rfl, rfl, hC, hZ, hN, hM, I, P⟩
  have fin : ∀ r : Int32, (∀ post : Int32 → Prop, post r → wpX_getStack post (nI C, nI Z, nI N, nI M, co, ca, st, pc, mk, ex, sd, fd, pn, sk, fk, fa, fs, pX, ho, aq, rl) v1 v2) → (∀ post : Int32 → Prop, post r → wpY_getStack post (nI C, nI Z, nI N, nI M, co, ca, st, pc, mk, ex, sd, fd, pn, sk, fk, fa, fs, pY, ho, aq, rl) v1 v2) → wpX_getStack (fun r => wpY_getStack (fun r' => r' = r ∧ i_Rel (k + 4) (nI C, nI Z, nI N, nI M, co, ca, st, pc, mk, ex, sd, fd, pn, sk, fk, fa, fs, pX, ho, aq, rl) (nI C, nI Z, nI N, nI M, co, ca, st, pc, mk, ex, sd, fd, pn, sk, fk, fa, fs, pY, ho, aq, rl)) (nI C, nI Z, nI N, nI M, co, ca, st, pc, mk, ex, sd, fd, pn, sk, fk, fa, fs, pY, ho, aq, rl) v1 v2) (nI C, nI Z, nI N, nI M, co, ca, st, pc, mk, ex, sd, fd, pn, sk, fk, fa, fs, pX, ho, aq, rl) v1 v2 := fun r hX hY => hX _ (hY _ ⟨rfl, R⟩)
  rcases pk_ix v1 (n := M) (by omega) with q | q | ⟨t, ht, rfl⟩
  · refine fin 0 (fun post h => ?_) (fun post h => ?_)
    · simp (disch := omega) only [wpX_getStack, wpX_isThread, q, nI_clamp, pk_us, am_uu, nI_1, nI_pred, am_ip, nI_add, am_m8, am_m4, vp_in_nI, true_and, and_true, forall_eq, true_implies, false_implies, not_true_eq_false, not_false_eq_true, am_ne_1_0, Int32.reduceLT, Int32.reduceLE]
      exact h
    · simp (disch := omega) only [wpY_getStack, q, nI_clamp, pk_us, am_uu, nI_1, nI_pred, am_ip, nI_add, am_m8, am_m4, vp_in_nI, true_and, and_true, forall_eq, true_implies, false_implies, not_true_eq_false, not_false_eq_true, am_ne_1_0, Int32.reduceLT, Int32.reduceLE]
      exact h
  · have hz : ¬ v1 < 0 := am_nb (by omega) q
    refine fin 0 (fun post h => ?_) (fun post h => ?_)
    · simp (disch := omega) only [wpX_getStack, wpX_isThread, q, hz, nI_clamp, pk_us, am_uu, nI_1, nI_pred, am_ip, nI_add, am_m8, am_m4, vp_in_nI, true_and, and_true, forall_eq, true_implies, false_implies, not_true_eq_false, not_false_eq_true, am_ne_1_0, Int32.reduceLT, Int32.reduceLE]
      exact h
    · simp (disch := omega) only [wpY_getStack, q, hz, nI_clamp, pk_us, am_uu, nI_1, nI_pred, am_ip, nI_add, am_m8, am_m4, vp_in_nI, true_and, and_true, forall_eq, true_implies, false_implies, not_true_eq_false, not_false_eq_true, am_ne_1_0, Int32.reduceLT, Int32.reduceLE]
      exact h
  have e1 : ¬ nI t < 0 := nI_pos (by omega)
  have e2 : ¬ nI M ≤ nI t := nI_ge ht (by omega)
  obtain ⟨d, hd, hs⟩ := I.2.1 t
  rcases pk_ix v2 (n := d) (by omega) with w | w | ⟨i, hi, rfl⟩
  · refine fin 0 (fun post h => ?_) (fun post h => ?_)
    · simp (disch := omega) only [wpX_getStack, wpX_isThread, e1, e2, w, nI_clamp, pk_us, am_uu, nI_1, nI_pred, am_ip, nI_add, am_m8, am_m4, vp_in_nI, true_and, and_true, forall_eq, true_implies, false_implies, not_true_eq_false, not_false_eq_true, am_ne_1_0, Int32.reduceLT, Int32.reduceLE]
      exact h
    · simp (disch := omega) only [wpY_getStack, e1, e2, w, nI_clamp, pk_us, am_uu, nI_1, nI_pred, am_ip, nI_add, am_m8, am_m4, vp_in_nI, true_and, and_true, forall_eq, true_implies, false_implies, not_true_eq_false, not_false_eq_true, am_ne_1_0, Int32.reduceLT, Int32.reduceLE]
      exact h
  · have hz : ¬ v2 < 0 := am_nb (by omega) w
    have hy : ¬ v2 < nI d := Int32.not_lt.mpr w
    refine fin 0 (fun post h => ?_) (fun post h => ?_)
    · simp (disch := omega) only [wpX_getStack, wpX_isThread, e1, e2, hz, hy, hs, nI_clamp, pk_us, am_uu, nI_1, nI_pred, am_ip, nI_add, am_m8, am_m4, vp_in_nI, true_and, and_true, forall_eq, true_implies, false_implies, not_true_eq_false, not_false_eq_true, am_ne_1_0, Int32.reduceLT, Int32.reduceLE]
      exact h
    · simp (disch := omega) only [wpY_getStack, e1, e2, hz, hy, hs, nI_clamp, pk_us, am_uu, nI_1, nI_pred, am_ip, nI_add, am_m8, am_m4, vp_in_nI, true_and, and_true, forall_eq, true_implies, false_implies, not_true_eq_false, not_false_eq_true, am_ne_1_0, Int32.reduceLT, Int32.reduceLE]
      exact h
  have e3 : ¬ nI i < 0 := nI_pos (by omega)
  have e4 : nI i < nI d := nI_lt hi (by omega)
  refine fin (sk (t * 8 + i)) (fun post h => ?_) (fun post h => ?_)
  · simp (disch := omega) only [wpX_getStack, wpX_isThread, e1, e2, e3, e4, hs, nI_clamp, pk_us, am_uu, nI_1, nI_pred, am_ip, nI_add, am_m8, am_m4, vp_in_nI, true_and, and_true, forall_eq, true_implies, false_implies, not_true_eq_false, not_false_eq_true, am_ne_1_0, Int32.reduceLT, Int32.reduceLE]
    exact h
  · simp (disch := omega) only [wpY_getStack, e1, e2, e3, e4, hs, nI_clamp, pk_us, am_uu, nI_1, nI_pred, am_ip, nI_add, am_m8, am_m4, vp_in_nI, true_and, and_true, forall_eq, true_implies, false_implies, not_true_eq_false, not_false_eq_true, am_ne_1_0, Int32.reduceLT, Int32.reduceLE]
    exact h
theorem i_vc_getPending {k : Nat} {u : SX} {v : SY} (I : i_Rel k u v) (hk : k + 4 ≤ 2050) (v1 : Int32) (v2 : Int32) : wpX_getPending (fun r => wpY_getPending (fun r' => r' = r ∧ i_Rel (k + 4) u v) v v1 v2) u v1 v2 := by
  obtain ⟨C, Z, N, M, co, ca, st, pc, mk, ex, sd, fd, pn, sk, fk, fa, fs, pX, pY, ho, aq, rl, rfl, rfl, hC, hZ, hN, hM, I, P⟩ := I
  have R : i_Rel (k + 4) (nI C, nI Z, nI N, nI M, co, ca, st, pc, mk, ex, sd, fd, pn, sk, fk, fa, fs, pX, ho, aq, rl) (nI C, nI Z, nI N, nI M, co, ca, st, pc, mk, ex, sd, fd, pn, sk, fk, fa, fs, pY, ho, aq, rl) := ⟨C, Z, N, M, co, ca, st, pc, mk, ex, sd, fd, pn, sk, fk, fa, fs, pX, pY, ho, aq, rl, rfl, rfl, hC, hZ, hN, hM, I, P⟩
  have fin : ∀ r : Int32, (∀ post : Int32 → Prop, post r → wpX_getPending post (nI C, nI Z, nI N, nI M, co, ca, st, pc, mk, ex, sd, fd, pn, sk, fk, fa, fs, pX, ho, aq, rl) v1 v2) → (∀ post : Int32 → Prop, post r → wpY_getPending post (nI C, nI Z, nI N, nI M, co, ca, st, pc, mk, ex, sd, fd, pn, sk, fk, fa, fs, pY, ho, aq, rl) v1 v2) → wpX_getPending (fun r => wpY_getPending (fun r' => r' = r ∧ i_Rel (k + 4) (nI C, nI Z, nI N, nI M, co, ca, st, pc, mk, ex, sd, fd, pn, sk, fk, fa, fs, pX, ho, aq, rl) (nI C, nI Z, nI N, nI M, co, ca, st, pc, mk, ex, sd, fd, pn, sk, fk, fa, fs, pY, ho, aq, rl)) (nI C, nI Z, nI N, nI M, co, ca, st, pc, mk, ex, sd, fd, pn, sk, fk, fa, fs, pY, ho, aq, rl) v1 v2) (nI C, nI Z, nI N, nI M, co, ca, st, pc, mk, ex, sd, fd, pn, sk, fk, fa, fs, pX, ho, aq, rl) v1 v2 := fun r hX hY => hX _ (hY _ ⟨rfl, R⟩)
  rcases pk_ix v1 (n := M) (by omega) with q | q | ⟨t, ht, rfl⟩
  · refine fin 0 (fun post h => ?_) (fun post h => ?_)
    · simp (disch := omega) only [wpX_getPending, wpX_isThread, q, nI_clamp, pk_us, am_uu, nI_1, nI_pred, am_ip, nI_add, am_m8, am_m4, vp_in_nI, true_and, and_true, forall_eq, true_implies, false_implies, not_true_eq_false, not_false_eq_true, am_ne_1_0, Int32.reduceLT, Int32.reduceLE]
      exact h
    · simp (disch := omega) only [wpY_getPending, q, nI_clamp, pk_us, am_uu, nI_1, nI_pred, am_ip, nI_add, am_m8, am_m4, vp_in_nI, true_and, and_true, forall_eq, true_implies, false_implies, not_true_eq_false, not_false_eq_true, am_ne_1_0, Int32.reduceLT, Int32.reduceLE]
      exact h
  · have hz : ¬ v1 < 0 := am_nb (by omega) q
    refine fin 0 (fun post h => ?_) (fun post h => ?_)
    · simp (disch := omega) only [wpX_getPending, wpX_isThread, q, hz, nI_clamp, pk_us, am_uu, nI_1, nI_pred, am_ip, nI_add, am_m8, am_m4, vp_in_nI, true_and, and_true, forall_eq, true_implies, false_implies, not_true_eq_false, not_false_eq_true, am_ne_1_0, Int32.reduceLT, Int32.reduceLE]
      exact h
    · simp (disch := omega) only [wpY_getPending, q, hz, nI_clamp, pk_us, am_uu, nI_1, nI_pred, am_ip, nI_add, am_m8, am_m4, vp_in_nI, true_and, and_true, forall_eq, true_implies, false_implies, not_true_eq_false, not_false_eq_true, am_ne_1_0, Int32.reduceLT, Int32.reduceLE]
      exact h
  have e1 : ¬ nI t < 0 := nI_pos (by omega)
  have e2 : ¬ nI M ≤ nI t := nI_ge ht (by omega)
  obtain ⟨d, hd, hs⟩ := I.2.2.2.1 t
  rcases pk_ix v2 (n := d) (by omega) with w | w | ⟨i, hi, rfl⟩
  · refine fin 0 (fun post h => ?_) (fun post h => ?_)
    · simp (disch := omega) only [wpX_getPending, wpX_isThread, e1, e2, w, nI_clamp, pk_us, am_uu, nI_1, nI_pred, am_ip, nI_add, am_m8, am_m4, vp_in_nI, true_and, and_true, forall_eq, true_implies, false_implies, not_true_eq_false, not_false_eq_true, am_ne_1_0, Int32.reduceLT, Int32.reduceLE]
      exact h
    · simp (disch := omega) only [wpY_getPending, e1, e2, w, nI_clamp, pk_us, am_uu, nI_1, nI_pred, am_ip, nI_add, am_m8, am_m4, vp_in_nI, true_and, and_true, forall_eq, true_implies, false_implies, not_true_eq_false, not_false_eq_true, am_ne_1_0, Int32.reduceLT, Int32.reduceLE]
      exact h
  · have hz : ¬ v2 < 0 := am_nb (by omega) w
    have hy : ¬ v2 < nI d := Int32.not_lt.mpr w
    refine fin 0 (fun post h => ?_) (fun post h => ?_)
    · simp (disch := omega) only [wpX_getPending, wpX_isThread, e1, e2, hz, hy, hs, nI_clamp, pk_us, am_uu, nI_1, nI_pred, am_ip, nI_add, am_m8, am_m4, vp_in_nI, true_and, and_true, forall_eq, true_implies, false_implies, not_true_eq_false, not_false_eq_true, am_ne_1_0, Int32.reduceLT, Int32.reduceLE]
      exact h
    · simp (disch := omega) only [wpY_getPending, e1, e2, hz, hy, hs, nI_clamp, pk_us, am_uu, nI_1, nI_pred, am_ip, nI_add, am_m8, am_m4, vp_in_nI, true_and, and_true, forall_eq, true_implies, false_implies, not_true_eq_false, not_false_eq_true, am_ne_1_0, Int32.reduceLT, Int32.reduceLE]
      exact h
  have e3 : ¬ nI i < 0 := nI_pos (by omega)
  have e4 : nI i < nI d := nI_lt hi (by omega)
  have e5 := P t i d (by omega) hd hs hi
  refine fin (pY (t * 4 + i)) (fun post h => ?_) (fun post h => ?_)
  · simp (disch := omega) only [wpX_getPending, wpX_isThread, e1, e2, e3, e4, e5, hs, nI_clamp, pk_us, am_uu, nI_1, nI_pred, am_ip, nI_add, am_m8, am_m4, vp_in_nI, true_and, and_true, forall_eq, true_implies, false_implies, not_true_eq_false, not_false_eq_true, am_ne_1_0, Int32.reduceLT, Int32.reduceLE]
    exact h
  · simp (disch := omega) only [wpY_getPending, e1, e2, e3, e4, hs, nI_clamp, pk_us, am_uu, nI_1, nI_pred, am_ip, nI_add, am_m8, am_m4, vp_in_nI, true_and, and_true, forall_eq, true_implies, false_implies, not_true_eq_false, not_false_eq_true, am_ne_1_0, Int32.reduceLT, Int32.reduceLE]
    exact h
theorem i_vc_getFrame {k : Nat} {u : SX} {v : SY} (I : i_Rel k u v) (hk : k + 4 ≤ 2050) (v1 : Int32) (v2 : Int32) (v3 : Int32) : wpX_getFrame (fun r => wpY_getFrame (fun r' => r' = r ∧ i_Rel (k + 4) u v) v v1 v2 v3) u v1 v2 v3 := by
  obtain ⟨C, Z, N, M, co, ca, st, pc, mk, ex, sd, fd, pn, sk, fk, fa, fs, pX, pY, ho, aq, rl, rfl, rfl, hC, hZ, hN, hM, I, P⟩ := I
  have R : i_Rel (k + 4) (nI C, nI Z, nI N, nI M, co, ca, st, pc, mk, ex, sd, fd, pn, sk, fk, fa, fs, pX, ho, aq, rl) (nI C, nI Z, nI N, nI M, co, ca, st, pc, mk, ex, sd, fd, pn, sk, fk, fa, fs, pY, ho, aq, rl) := ⟨C, Z, N, M, co, ca, st, pc, mk, ex, sd, fd, pn, sk, fk, fa, fs, pX, pY, ho, aq, rl, rfl, rfl, hC, hZ, hN, hM, I, P⟩
  have fin : ∀ r : Int32, (∀ post : Int32 → Prop, post r → wpX_getFrame post (nI C, nI Z, nI N, nI M, co, ca, st, pc, mk, ex, sd, fd, pn, sk, fk, fa, fs, pX, ho, aq, rl) v1 v2 v3) → (∀ post : Int32 → Prop, post r → wpY_getFrame post (nI C, nI Z, nI N, nI M, co, ca, st, pc, mk, ex, sd, fd, pn, sk, fk, fa, fs, pY, ho, aq, rl) v1 v2 v3) → wpX_getFrame (fun r => wpY_getFrame (fun r' => r' = r ∧ i_Rel (k + 4) (nI C, nI Z, nI N, nI M, co, ca, st, pc, mk, ex, sd, fd, pn, sk, fk, fa, fs, pX, ho, aq, rl) (nI C, nI Z, nI N, nI M, co, ca, st, pc, mk, ex, sd, fd, pn, sk, fk, fa, fs, pY, ho, aq, rl)) (nI C, nI Z, nI N, nI M, co, ca, st, pc, mk, ex, sd, fd, pn, sk, fk, fa, fs, pY, ho, aq, rl) v1 v2 v3) (nI C, nI Z, nI N, nI M, co, ca, st, pc, mk, ex, sd, fd, pn, sk, fk, fa, fs, pX, ho, aq, rl) v1 v2 v3 := fun r hX hY => hX _ (hY _ ⟨rfl, R⟩)
  rcases pk_ix v1 (n := M) (by omega) with q | q | ⟨t, ht, rfl⟩
  · refine fin 0 (fun post h => ?_) (fun post h => ?_)
    · simp (disch := omega) only [wpX_getFrame, wpX_isThread, q, nI_clamp, pk_us, am_uu, nI_1, nI_pred, am_ip, nI_add, am_m8, am_m4, vp_in_nI, true_and, and_true, forall_eq, true_implies, false_implies, not_true_eq_false, not_false_eq_true, am_ne_1_0, Int32.reduceLT, Int32.reduceLE]
      exact h
    · simp (disch := omega) only [wpY_getFrame, q, nI_clamp, pk_us, am_uu, nI_1, nI_pred, am_ip, nI_add, am_m8, am_m4, vp_in_nI, true_and, and_true, forall_eq, true_implies, false_implies, not_true_eq_false, not_false_eq_true, am_ne_1_0, Int32.reduceLT, Int32.reduceLE]
      exact h
  · have hz : ¬ v1 < 0 := am_nb (by omega) q
    refine fin 0 (fun post h => ?_) (fun post h => ?_)
    · simp (disch := omega) only [wpX_getFrame, wpX_isThread, q, hz, nI_clamp, pk_us, am_uu, nI_1, nI_pred, am_ip, nI_add, am_m8, am_m4, vp_in_nI, true_and, and_true, forall_eq, true_implies, false_implies, not_true_eq_false, not_false_eq_true, am_ne_1_0, Int32.reduceLT, Int32.reduceLE]
      exact h
    · simp (disch := omega) only [wpY_getFrame, q, hz, nI_clamp, pk_us, am_uu, nI_1, nI_pred, am_ip, nI_add, am_m8, am_m4, vp_in_nI, true_and, and_true, forall_eq, true_implies, false_implies, not_true_eq_false, not_false_eq_true, am_ne_1_0, Int32.reduceLT, Int32.reduceLE]
      exact h
  have e1 : ¬ nI t < 0 := nI_pos (by omega)
  have e2 : ¬ nI M ≤ nI t := nI_ge ht (by omega)
  obtain ⟨d, hd, hs⟩ := I.2.2.1 t
  rcases pk_ix v2 (n := d) (by omega) with w | w | ⟨i, hi, rfl⟩
  · refine fin 0 (fun post h => ?_) (fun post h => ?_)
    · simp (disch := omega) only [wpX_getFrame, wpX_isThread, e1, e2, w, nI_clamp, pk_us, am_uu, nI_1, nI_pred, am_ip, nI_add, am_m8, am_m4, vp_in_nI, true_and, and_true, forall_eq, true_implies, false_implies, not_true_eq_false, not_false_eq_true, am_ne_1_0, Int32.reduceLT, Int32.reduceLE]
      exact h
    · simp (disch := omega) only [wpY_getFrame, e1, e2, w, nI_clamp, pk_us, am_uu, nI_1, nI_pred, am_ip, nI_add, am_m8, am_m4, vp_in_nI, true_and, and_true, forall_eq, true_implies, false_implies, not_true_eq_false, not_false_eq_true, am_ne_1_0, Int32.reduceLT, Int32.reduceLE]
      exact h
  · have hz : ¬ v2 < 0 := am_nb (by omega) w
    have hy : ¬ v2 < nI d := Int32.not_lt.mpr w
    refine fin 0 (fun post h => ?_) (fun post h => ?_)
    · simp (disch := omega) only [wpX_getFrame, wpX_isThread, e1, e2, hz, hy, hs, nI_clamp, pk_us, am_uu, nI_1, nI_pred, am_ip, nI_add, am_m8, am_m4, vp_in_nI, true_and, and_true, forall_eq, true_implies, false_implies, not_true_eq_false, not_false_eq_true, am_ne_1_0, Int32.reduceLT, Int32.reduceLE]
      exact h
    · simp (disch := omega) only [wpY_getFrame, e1, e2, hz, hy, hs, nI_clamp, pk_us, am_uu, nI_1, nI_pred, am_ip, nI_add, am_m8, am_m4, vp_in_nI, true_and, and_true, forall_eq, true_implies, false_implies, not_true_eq_false, not_false_eq_true, am_ne_1_0, Int32.reduceLT, Int32.reduceLE]
      exact h
  have e3 : ¬ nI i < 0 := nI_pos (by omega)
  have e4 : nI i < nI d := nI_lt hi (by omega)
  by_cases f0 : v3 = 0
  · subst f0
    refine fin (fk (t * 8 + i)) (fun post h => ?_) (fun post h => ?_)
    · simp (disch := omega) only [wpX_getFrame, wpX_isThread, e1, e2, e3, e4, hs, nI_clamp, pk_us, am_uu, nI_1, nI_pred, am_ip, nI_add, am_m8, am_m4, vp_in_nI, true_and, and_true, forall_eq, true_implies, false_implies, not_true_eq_false, not_false_eq_true, am_ne_1_0, Int32.reduceLT, Int32.reduceLE]
      exact h
    · simp (disch := omega) only [wpY_getFrame, e1, e2, e3, e4, hs, nI_clamp, pk_us, am_uu, nI_1, nI_pred, am_ip, nI_add, am_m8, am_m4, vp_in_nI, true_and, and_true, forall_eq, true_implies, false_implies, not_true_eq_false, not_false_eq_true, am_ne_1_0, Int32.reduceLT, Int32.reduceLE]
      exact h
  by_cases f1 : v3 = 1
  · subst f1
    refine fin (fa (t * 8 + i)) (fun post h => ?_) (fun post h => ?_)
    · simp (disch := omega) only [wpX_getFrame, wpX_isThread, e1, e2, e3, e4, hs, am_ne_1_0, nI_clamp, pk_us, am_uu, nI_1, nI_pred, am_ip, nI_add, am_m8, am_m4, vp_in_nI, true_and, and_true, forall_eq, true_implies, false_implies, not_true_eq_false, not_false_eq_true, am_ne_1_0, Int32.reduceLT, Int32.reduceLE]
      exact h
    · simp (disch := omega) only [wpY_getFrame, e1, e2, e3, e4, hs, am_ne_1_0, nI_clamp, pk_us, am_uu, nI_1, nI_pred, am_ip, nI_add, am_m8, am_m4, vp_in_nI, true_and, and_true, forall_eq, true_implies, false_implies, not_true_eq_false, not_false_eq_true, am_ne_1_0, Int32.reduceLT, Int32.reduceLE]
      exact h
  by_cases f2 : v3 = 2
  · subst f2
    refine fin (fs (t * 8 + i)) (fun post h => ?_) (fun post h => ?_)
    · simp (disch := omega) only [wpX_getFrame, wpX_isThread, e1, e2, e3, e4, hs, am_ne_2_0, am_ne_2_1, nI_clamp, pk_us, am_uu, nI_1, nI_pred, am_ip, nI_add, am_m8, am_m4, vp_in_nI, true_and, and_true, forall_eq, true_implies, false_implies, not_true_eq_false, not_false_eq_true, am_ne_1_0, Int32.reduceLT, Int32.reduceLE]
      exact h
    · simp (disch := omega) only [wpY_getFrame, e1, e2, e3, e4, hs, am_ne_2_0, am_ne_2_1, nI_clamp, pk_us, am_uu, nI_1, nI_pred, am_ip, nI_add, am_m8, am_m4, vp_in_nI, true_and, and_true, forall_eq, true_implies, false_implies, not_true_eq_false, not_false_eq_true, am_ne_1_0, Int32.reduceLT, Int32.reduceLE]
      exact h
  by_cases g0 : v3 < 0
  · refine fin 0 (fun post h => ?_) (fun post h => ?_)
    · simp (disch := omega) only [wpX_getFrame, wpX_isThread, e1, e2, e3, e4, hs, g0, f0, f1, f2, nI_clamp, pk_us, am_uu, nI_1, nI_pred, am_ip, nI_add, am_m8, am_m4, vp_in_nI, true_and, and_true, forall_eq, true_implies, false_implies, not_true_eq_false, not_false_eq_true, am_ne_1_0, Int32.reduceLT, Int32.reduceLE]
      exact h
    · simp (disch := omega) only [wpY_getFrame, e1, e2, e3, e4, hs, g0, f0, f1, f2, nI_clamp, pk_us, am_uu, nI_1, nI_pred, am_ip, nI_add, am_m8, am_m4, vp_in_nI, true_and, and_true, forall_eq, true_implies, false_implies, not_true_eq_false, not_false_eq_true, am_ne_1_0, Int32.reduceLT, Int32.reduceLE]
      exact h
  by_cases g1 : 2 < v3
  · refine fin 0 (fun post h => ?_) (fun post h => ?_)
    · simp (disch := omega) only [wpX_getFrame, wpX_isThread, e1, e2, e3, e4, hs, g0, g1, f0, f1, f2, nI_clamp, pk_us, am_uu, nI_1, nI_pred, am_ip, nI_add, am_m8, am_m4, vp_in_nI, true_and, and_true, forall_eq, true_implies, false_implies, not_true_eq_false, not_false_eq_true, am_ne_1_0, Int32.reduceLT, Int32.reduceLE]
      exact h
    · simp (disch := omega) only [wpY_getFrame, e1, e2, e3, e4, hs, g0, g1, f0, f1, f2, nI_clamp, pk_us, am_uu, nI_1, nI_pred, am_ip, nI_add, am_m8, am_m4, vp_in_nI, true_and, and_true, forall_eq, true_implies, false_implies, not_true_eq_false, not_false_eq_true, am_ne_1_0, Int32.reduceLT, Int32.reduceLE]
      exact h
  exact am_no2 v3 g0 g1 f0 f1 f2
theorem i_vc_getThread {k : Nat} {u : SX} {v : SY} (I : i_Rel k u v) (hk : k + 4 ≤ 2050) (v1 : Int32) (v2 : Int32) : wpX_getThread (fun r => wpY_getThread (fun r' => r' = r ∧ i_Rel (k + 4) u v) v v1 v2) u v1 v2 := by
  obtain ⟨C, Z, N, M, co, ca, st, pc, mk, ex, sd, fd, pn, sk, fk, fa, fs, pX, pY, ho, aq, rl, rfl, rfl, hC, hZ, hN, hM, I, P⟩ := I
  have R : i_Rel (k + 4) (nI C, nI Z, nI N, nI M, co, ca, st, pc, mk, ex, sd, fd, pn, sk, fk, fa, fs, pX, ho, aq, rl) (nI C, nI Z, nI N, nI M, co, ca, st, pc, mk, ex, sd, fd, pn, sk, fk, fa, fs, pY, ho, aq, rl) := ⟨C, Z, N, M, co, ca, st, pc, mk, ex, sd, fd, pn, sk, fk, fa, fs, pX, pY, ho, aq, rl, rfl, rfl, hC, hZ, hN, hM, I, P⟩
  have fin : ∀ r : Int32, (∀ post : Int32 → Prop, post r → wpX_getThread post (nI C, nI Z, nI N, nI M, co, ca, st, pc, mk, ex, sd, fd, pn, sk, fk, fa, fs, pX, ho, aq, rl) v1 v2) → (∀ post : Int32 → Prop, post r → wpY_getThread post (nI C, nI Z, nI N, nI M, co, ca, st, pc, mk, ex, sd, fd, pn, sk, fk, fa, fs, pY, ho, aq, rl) v1 v2) → wpX_getThread (fun r => wpY_getThread (fun r' => r' = r ∧ i_Rel (k + 4) (nI C, nI Z, nI N, nI M, co, ca, st, pc, mk, ex, sd, fd, pn, sk, fk, fa, fs, pX, ho, aq, rl) (nI C, nI Z, nI N, nI M, co, ca, st, pc, mk, ex, sd, fd, pn, sk, fk, fa, fs, pY, ho, aq, rl)) (nI C, nI Z, nI N, nI M, co, ca, st, pc, mk, ex, sd, fd, pn, sk, fk, fa, fs, pY, ho, aq, rl) v1 v2) (nI C, nI Z, nI N, nI M, co, ca, st, pc, mk, ex, sd, fd, pn, sk, fk, fa, fs, pX, ho, aq, rl) v1 v2 := fun r hX hY => hX _ (hY _ ⟨rfl, R⟩)
  rcases pk_ix v1 (n := M) (by omega) with q | q | ⟨t, ht, rfl⟩
  · refine fin (-1) (fun post h => ?_) (fun post h => ?_)
    · simp (disch := omega) only [wpX_getThread, wpX_isThread, q, nI_clamp, pk_us, am_uu, nI_1, nI_pred, am_ip, nI_add, am_m8, am_m4, vp_in_nI, true_and, and_true, forall_eq, true_implies, false_implies, not_true_eq_false, not_false_eq_true, am_ne_1_0, Int32.reduceLT, Int32.reduceLE]
      exact h
    · simp (disch := omega) only [wpY_getThread, q, nI_clamp, pk_us, am_uu, nI_1, nI_pred, am_ip, nI_add, am_m8, am_m4, vp_in_nI, true_and, and_true, forall_eq, true_implies, false_implies, not_true_eq_false, not_false_eq_true, am_ne_1_0, Int32.reduceLT, Int32.reduceLE]
      exact h
  · have hz : ¬ v1 < 0 := am_nb (by omega) q
    refine fin (-1) (fun post h => ?_) (fun post h => ?_)
    · simp (disch := omega) only [wpX_getThread, wpX_isThread, q, hz, nI_clamp, pk_us, am_uu, nI_1, nI_pred, am_ip, nI_add, am_m8, am_m4, vp_in_nI, true_and, and_true, forall_eq, true_implies, false_implies, not_true_eq_false, not_false_eq_true, am_ne_1_0, Int32.reduceLT, Int32.reduceLE]
      exact h
    · simp (disch := omega) only [wpY_getThread, q, hz, nI_clamp, pk_us, am_uu, nI_1, nI_pred, am_ip, nI_add, am_m8, am_m4, vp_in_nI, true_and, and_true, forall_eq, true_implies, false_implies, not_true_eq_false, not_false_eq_true, am_ne_1_0, Int32.reduceLT, Int32.reduceLE]
      exact h
  have e1 : ¬ nI t < 0 := nI_pos (by omega)
  have e2 : ¬ nI M ≤ nI t := nI_ge ht (by omega)
  by_cases f0 : v2 = 0
  · subst f0
    refine fin (st t) (fun post h => ?_) (fun post h => ?_)
    · simp (disch := omega) only [wpX_getThread, wpX_isThread, e1, e2, nI_clamp, pk_us, am_uu, nI_1, nI_pred, am_ip, nI_add, am_m8, am_m4, vp_in_nI, true_and, and_true, forall_eq, true_implies, false_implies, not_true_eq_false, not_false_eq_true, am_ne_1_0, Int32.reduceLT, Int32.reduceLE]
      exact h
    · simp (disch := omega) only [wpY_getThread, e1, e2, nI_clamp, pk_us, am_uu, nI_1, nI_pred, am_ip, nI_add, am_m8, am_m4, vp_in_nI, true_and, and_true, forall_eq, true_implies, false_implies, not_true_eq_false, not_false_eq_true, am_ne_1_0, Int32.reduceLT, Int32.reduceLE]
      exact h
  by_cases f1 : v2 = 1
  · subst f1
    refine fin (pc t) (fun post h => ?_) (fun post h => ?_)
    · simp (disch := omega) only [wpX_getThread, wpX_isThread, e1, e2, am_ne_1_0, nI_clamp, pk_us, am_uu, nI_1, nI_pred, am_ip, nI_add, am_m8, am_m4, vp_in_nI, true_and, and_true, forall_eq, true_implies, false_implies, not_true_eq_false, not_false_eq_true, am_ne_1_0, Int32.reduceLT, Int32.reduceLE]
      exact h
    · simp (disch := omega) only [wpY_getThread, e1, e2, am_ne_1_0, nI_clamp, pk_us, am_uu, nI_1, nI_pred, am_ip, nI_add, am_m8, am_m4, vp_in_nI, true_and, and_true, forall_eq, true_implies, false_implies, not_true_eq_false, not_false_eq_true, am_ne_1_0, Int32.reduceLT, Int32.reduceLE]
      exact h
  by_cases f2 : v2 = 2
  · subst f2
    refine fin (mk t) (fun post h => ?_) (fun post h => ?_)
    · simp (disch := omega) only [wpX_getThread, wpX_isThread, e1, e2, am_ne_2_0, am_ne_2_1, nI_clamp, pk_us, am_uu, nI_1, nI_pred, am_ip, nI_add, am_m8, am_m4, vp_in_nI, true_and, and_true, forall_eq, true_implies, false_implies, not_true_eq_false, not_false_eq_true, am_ne_1_0, Int32.reduceLT, Int32.reduceLE]
      exact h
    · simp (disch := omega) only [wpY_getThread, e1, e2, am_ne_2_0, am_ne_2_1, nI_clamp, pk_us, am_uu, nI_1, nI_pred, am_ip, nI_add, am_m8, am_m4, vp_in_nI, true_and, and_true, forall_eq, true_implies, false_implies, not_true_eq_false, not_false_eq_true, am_ne_1_0, Int32.reduceLT, Int32.reduceLE]
      exact h
  by_cases f3 : v2 = 3
  · subst f3
    refine fin (ex t) (fun post h => ?_) (fun post h => ?_)
    · simp (disch := omega) only [wpX_getThread, wpX_isThread, e1, e2, am_ne_3_0, am_ne_3_1, am_ne_3_2, nI_clamp, pk_us, am_uu, nI_1, nI_pred, am_ip, nI_add, am_m8, am_m4, vp_in_nI, true_and, and_true, forall_eq, true_implies, false_implies, not_true_eq_false, not_false_eq_true, am_ne_1_0, Int32.reduceLT, Int32.reduceLE]
      exact h
    · simp (disch := omega) only [wpY_getThread, e1, e2, am_ne_3_0, am_ne_3_1, am_ne_3_2, nI_clamp, pk_us, am_uu, nI_1, nI_pred, am_ip, nI_add, am_m8, am_m4, vp_in_nI, true_and, and_true, forall_eq, true_implies, false_implies, not_true_eq_false, not_false_eq_true, am_ne_1_0, Int32.reduceLT, Int32.reduceLE]
      exact h
  by_cases f4 : v2 = 4
  · subst f4
    refine fin (sd t) (fun post h => ?_) (fun post h => ?_)
    · simp (disch := omega) only [wpX_getThread, wpX_isThread, e1, e2, am_ne_4_0, am_ne_4_1, am_ne_4_2, am_ne_4_3, nI_clamp, pk_us, am_uu, nI_1, nI_pred, am_ip, nI_add, am_m8, am_m4, vp_in_nI, true_and, and_true, forall_eq, true_implies, false_implies, not_true_eq_false, not_false_eq_true, am_ne_1_0, Int32.reduceLT, Int32.reduceLE]
      exact h
    · simp (disch := omega) only [wpY_getThread, e1, e2, am_ne_4_0, am_ne_4_1, am_ne_4_2, am_ne_4_3, nI_clamp, pk_us, am_uu, nI_1, nI_pred, am_ip, nI_add, am_m8, am_m4, vp_in_nI, true_and, and_true, forall_eq, true_implies, false_implies, not_true_eq_false, not_false_eq_true, am_ne_1_0, Int32.reduceLT, Int32.reduceLE]
      exact h
  by_cases f5 : v2 = 5
  · subst f5
    refine fin (fd t) (fun post h => ?_) (fun post h => ?_)
    · simp (disch := omega) only [wpX_getThread, wpX_isThread, e1, e2, am_ne_5_0, am_ne_5_1, am_ne_5_2, am_ne_5_3, am_ne_5_4, nI_clamp, pk_us, am_uu, nI_1, nI_pred, am_ip, nI_add, am_m8, am_m4, vp_in_nI, true_and, and_true, forall_eq, true_implies, false_implies, not_true_eq_false, not_false_eq_true, am_ne_1_0, Int32.reduceLT, Int32.reduceLE]
      exact h
    · simp (disch := omega) only [wpY_getThread, e1, e2, am_ne_5_0, am_ne_5_1, am_ne_5_2, am_ne_5_3, am_ne_5_4, nI_clamp, pk_us, am_uu, nI_1, nI_pred, am_ip, nI_add, am_m8, am_m4, vp_in_nI, true_and, and_true, forall_eq, true_implies, false_implies, not_true_eq_false, not_false_eq_true, am_ne_1_0, Int32.reduceLT, Int32.reduceLE]
      exact h
  by_cases f6 : v2 = 6
  · subst f6
    refine fin (pn t) (fun post h => ?_) (fun post h => ?_)
    · simp (disch := omega) only [wpX_getThread, wpX_isThread, e1, e2, am_ne_6_0, am_ne_6_1, am_ne_6_2, am_ne_6_3, am_ne_6_4, am_ne_6_5, nI_clamp, pk_us, am_uu, nI_1, nI_pred, am_ip, nI_add, am_m8, am_m4, vp_in_nI, true_and, and_true, forall_eq, true_implies, false_implies, not_true_eq_false, not_false_eq_true, am_ne_1_0, Int32.reduceLT, Int32.reduceLE]
      exact h
    · simp (disch := omega) only [wpY_getThread, e1, e2, am_ne_6_0, am_ne_6_1, am_ne_6_2, am_ne_6_3, am_ne_6_4, am_ne_6_5, nI_clamp, pk_us, am_uu, nI_1, nI_pred, am_ip, nI_add, am_m8, am_m4, vp_in_nI, true_and, and_true, forall_eq, true_implies, false_implies, not_true_eq_false, not_false_eq_true, am_ne_1_0, Int32.reduceLT, Int32.reduceLE]
      exact h
  by_cases f7 : v2 = 7
  · subst f7
    obtain ⟨b, hb, hbX, hbY⟩ := am_bl (C := C) (Z := Z) (N := N) (co := co) (ca := ca) (pc := pc) (sk := sk) (fs := fs) (ho := ho) (aq := aq) (rl := rl) I ht (by omega)
    refine fin b (fun post h => ?_) (fun post h => ?_)
    · simp (disch := omega) only [wpX_getThread, wpX_isThread, e1, e2, am_ne_7_0, am_ne_7_1, am_ne_7_2, am_ne_7_3, am_ne_7_4, am_ne_7_5, am_ne_7_6, nI_clamp, pk_us, am_uu, nI_1, nI_pred, am_ip, nI_add, am_m8, am_m4, vp_in_nI, true_and, and_true, forall_eq, true_implies, false_implies, not_true_eq_false, not_false_eq_true, am_ne_1_0, Int32.reduceLT, Int32.reduceLE]
      refine hbX _ pX ?_
      rcases hb with rfl | rfl
      · exact br_t rfl h
      · exact br_f (by decide) h
    · simp (disch := omega) only [wpY_getThread, e1, e2, am_ne_7_0, am_ne_7_1, am_ne_7_2, am_ne_7_3, am_ne_7_4, am_ne_7_5, am_ne_7_6, nI_clamp, pk_us, am_uu, nI_1, nI_pred, am_ip, nI_add, am_m8, am_m4, vp_in_nI, true_and, and_true, forall_eq, true_implies, false_implies, not_true_eq_false, not_false_eq_true, am_ne_1_0, Int32.reduceLT, Int32.reduceLE]
      refine hbY _ pY ?_
      rcases hb with rfl | rfl
      · exact br_t rfl h
      · exact br_f (by decide) h
  by_cases g0 : v2 < 0
  · refine fin (-1) (fun post h => ?_) (fun post h => ?_)
    · simp (disch := omega) only [wpX_getThread, wpX_isThread, e1, e2, g0, nI_clamp, pk_us, am_uu, nI_1, nI_pred, am_ip, nI_add, am_m8, am_m4, vp_in_nI, true_and, and_true, forall_eq, true_implies, false_implies, not_true_eq_false, not_false_eq_true, am_ne_1_0, Int32.reduceLT, Int32.reduceLE]
      exact h
    · simp (disch := omega) only [wpY_getThread, e1, e2, g0, nI_clamp, pk_us, am_uu, nI_1, nI_pred, am_ip, nI_add, am_m8, am_m4, vp_in_nI, true_and, and_true, forall_eq, true_implies, false_implies, not_true_eq_false, not_false_eq_true, am_ne_1_0, Int32.reduceLT, Int32.reduceLE]
      exact h
  by_cases g1 : 7 < v2
  · have g2 : ¬ v2 ≤ 7 := Int32.not_le.mpr g1
    refine fin (-1) (fun post h => ?_) (fun post h => ?_)
    · simp (disch := omega) only [wpX_getThread, wpX_isThread, e1, e2, g0, g1, g2, nI_clamp, pk_us, am_uu, nI_1, nI_pred, am_ip, nI_add, am_m8, am_m4, vp_in_nI, true_and, and_true, forall_eq, true_implies, false_implies, not_true_eq_false, not_false_eq_true, am_ne_1_0, Int32.reduceLT, Int32.reduceLE]
      exact h
    · simp (disch := omega) only [wpY_getThread, e1, e2, g0, g1, g2, nI_clamp, pk_us, am_uu, nI_1, nI_pred, am_ip, nI_add, am_m8, am_m4, vp_in_nI, true_and, and_true, forall_eq, true_implies, false_implies, not_true_eq_false, not_false_eq_true, am_ne_1_0, Int32.reduceLT, Int32.reduceLE]
      exact h
  exact am_no7 v2 g0 g1 f0 f1 f2 f3 f4 f5 f6 f7
theorem i_vc_getResource {k : Nat} {u : SX} {v : SY} (I : i_Rel k u v) (hk : k + 4 ≤ 2050) (v1 : Int32) (v2 : Int32) : wpX_getResource (fun r => wpY_getResource (fun r' => r' = r ∧ i_Rel (k + 4) u v) v v1 v2) u v1 v2 := by
  obtain ⟨C, Z, N, M, co, ca, st, pc, mk, ex, sd, fd, pn, sk, fk, fa, fs, pX, pY, ho, aq, rl, rfl, rfl, hC, hZ, hN, hM, I, P⟩ := I
  have R : i_Rel (k + 4) (nI C, nI Z, nI N, nI M, co, ca, st, pc, mk, ex, sd, fd, pn, sk, fk, fa, fs, pX, ho, aq, rl) (nI C, nI Z, nI N, nI M, co, ca, st, pc, mk, ex, sd, fd, pn, sk, fk, fa, fs, pY, ho, aq, rl) := ⟨C, Z, N, M, co, ca, st, pc, mk, ex, sd, fd, pn, sk, fk, fa, fs, pX, pY, ho, aq, rl, rfl, rfl, hC, hZ, hN, hM, I, P⟩
  have fin : ∀ r : Int32, (∀ post : Int32 → Prop, post r → wpX_getResource post (nI C, nI Z, nI N, nI M, co, ca, st, pc, mk, ex, sd, fd, pn, sk, fk, fa, fs, pX, ho, aq, rl) v1 v2) → (∀ post : Int32 → Prop, post r → wpY_getResource post (nI C, nI Z, nI N, nI M, co, ca, st, pc, mk, ex, sd, fd, pn, sk, fk, fa, fs, pY, ho, aq, rl) v1 v2) → wpX_getResource (fun r => wpY_getResource (fun r' => r' = r ∧ i_Rel (k + 4) (nI C, nI Z, nI N, nI M, co, ca, st, pc, mk, ex, sd, fd, pn, sk, fk, fa, fs, pX, ho, aq, rl) (nI C, nI Z, nI N, nI M, co, ca, st, pc, mk, ex, sd, fd, pn, sk, fk, fa, fs, pY, ho, aq, rl)) (nI C, nI Z, nI N, nI M, co, ca, st, pc, mk, ex, sd, fd, pn, sk, fk, fa, fs, pY, ho, aq, rl) v1 v2) (nI C, nI Z, nI N, nI M, co, ca, st, pc, mk, ex, sd, fd, pn, sk, fk, fa, fs, pX, ho, aq, rl) v1 v2 := fun r hX hY => hX _ (hY _ ⟨rfl, R⟩)
  rcases pk_ix v1 (n := 8) (by omega) with q | q | ⟨t, ht, rfl⟩
  · refine fin (-1) (fun post h => ?_) (fun post h => ?_)
    · simp (disch := omega) only [wpX_getResource, wpX_isResource, q, nI_clamp, pk_us, am_uu, nI_1, nI_pred, am_ip, nI_add, am_m8, am_m4, vp_in_nI, true_and, and_true, forall_eq, true_implies, false_implies, not_true_eq_false, not_false_eq_true, am_ne_1_0, Int32.reduceLT, Int32.reduceLE]
      exact h
    · simp (disch := omega) only [wpY_getResource, q, nI_clamp, pk_us, am_uu, nI_1, nI_pred, am_ip, nI_add, am_m8, am_m4, vp_in_nI, true_and, and_true, forall_eq, true_implies, false_implies, not_true_eq_false, not_false_eq_true, am_ne_1_0, Int32.reduceLT, Int32.reduceLE]
      exact h
  · have hz : ¬ v1 < 0 := am_nb (M := 8) (by omega) q
    have q8 : 8 ≤ v1 := q
    have q7 : ¬ v1 ≤ 7 := Int32.not_le.mpr (Int32.lt_of_lt_of_le (by decide) q8)
    refine fin (-1) (fun post h => ?_) (fun post h => ?_)
    · simp (disch := omega) only [wpX_getResource, wpX_isResource, q8, q7, hz, nI_clamp, pk_us, am_uu, nI_1, nI_pred, am_ip, nI_add, am_m8, am_m4, vp_in_nI, true_and, and_true, forall_eq, true_implies, false_implies, not_true_eq_false, not_false_eq_true, am_ne_1_0, Int32.reduceLT, Int32.reduceLE]
      exact h
    · simp (disch := omega) only [wpY_getResource, q8, q7, hz, nI_clamp, pk_us, am_uu, nI_1, nI_pred, am_ip, nI_add, am_m8, am_m4, vp_in_nI, true_and, and_true, forall_eq, true_implies, false_implies, not_true_eq_false, not_false_eq_true, am_ne_1_0, Int32.reduceLT, Int32.reduceLE]
      exact h
  have e1 : ¬ nI t < 0 := nI_pos (by omega)
  have e2 : ¬ 8 ≤ nI t := nI_ge (b := 8) ht (by omega)
  have e3 : nI t ≤ 7 := nI_le (b := 7) (by omega) (by omega)
  by_cases f0 : v2 = 0
  · subst f0
    refine fin (ho t) (fun post h => ?_) (fun post h => ?_)
    · simp (disch := omega) only [wpX_getResource, wpX_isResource, e1, e2, e3, nI_clamp, pk_us, am_uu, nI_1, nI_pred, am_ip, nI_add, am_m8, am_m4, vp_in_nI, true_and, and_true, forall_eq, true_implies, false_implies, not_true_eq_false, not_false_eq_true, am_ne_1_0, Int32.reduceLT, Int32.reduceLE]
      exact h
    · simp (disch := omega) only [wpY_getResource, e1, e2, e3, nI_clamp, pk_us, am_uu, nI_1, nI_pred, am_ip, nI_add, am_m8, am_m4, vp_in_nI, true_and, and_true, forall_eq, true_implies, false_implies, not_true_eq_false, not_false_eq_true, am_ne_1_0, Int32.reduceLT, Int32.reduceLE]
      exact h
  by_cases f1 : v2 = 1
  · subst f1
    refine fin (aq t) (fun post h => ?_) (fun post h => ?_)
    · simp (disch := omega) only [wpX_getResource, wpX_isResource, e1, e2, e3, am_ne_1_0, nI_clamp, pk_us, am_uu, nI_1, nI_pred, am_ip, nI_add, am_m8, am_m4, vp_in_nI, true_and, and_true, forall_eq, true_implies, false_implies, not_true_eq_false, not_false_eq_true, am_ne_1_0, Int32.reduceLT, Int32.reduceLE]
      exact h
    · simp (disch := omega) only [wpY_getResource, e1, e2, e3, am_ne_1_0, nI_clamp, pk_us, am_uu, nI_1, nI_pred, am_ip, nI_add, am_m8, am_m4, vp_in_nI, true_and, and_true, forall_eq, true_implies, false_implies, not_true_eq_false, not_false_eq_true, am_ne_1_0, Int32.reduceLT, Int32.reduceLE]
      exact h
  by_cases f2 : v2 = 2
  · subst f2
    refine fin (rl t) (fun post h => ?_) (fun post h => ?_)
    · simp (disch := omega) only [wpX_getResource, wpX_isResource, e1, e2, e3, am_ne_2_0, am_ne_2_1, nI_clamp, pk_us, am_uu, nI_1, nI_pred, am_ip, nI_add, am_m8, am_m4, vp_in_nI, true_and, and_true, forall_eq, true_implies, false_implies, not_true_eq_false, not_false_eq_true, am_ne_1_0, Int32.reduceLT, Int32.reduceLE]
      exact h
    · simp (disch := omega) only [wpY_getResource, e1, e2, e3, am_ne_2_0, am_ne_2_1, nI_clamp, pk_us, am_uu, nI_1, nI_pred, am_ip, nI_add, am_m8, am_m4, vp_in_nI, true_and, and_true, forall_eq, true_implies, false_implies, not_true_eq_false, not_false_eq_true, am_ne_1_0, Int32.reduceLT, Int32.reduceLE]
      exact h
  by_cases g0 : v2 < 0
  · refine fin (-1) (fun post h => ?_) (fun post h => ?_)
    · simp (disch := omega) only [wpX_getResource, wpX_isResource, e1, e2, e3, g0, f0, f1, f2, nI_clamp, pk_us, am_uu, nI_1, nI_pred, am_ip, nI_add, am_m8, am_m4, vp_in_nI, true_and, and_true, forall_eq, true_implies, false_implies, not_true_eq_false, not_false_eq_true, am_ne_1_0, Int32.reduceLT, Int32.reduceLE]
      exact h
    · simp (disch := omega) only [wpY_getResource, e1, e2, e3, g0, f0, f1, f2, nI_clamp, pk_us, am_uu, nI_1, nI_pred, am_ip, nI_add, am_m8, am_m4, vp_in_nI, true_and, and_true, forall_eq, true_implies, false_implies, not_true_eq_false, not_false_eq_true, am_ne_1_0, Int32.reduceLT, Int32.reduceLE]
      exact h
  by_cases g1 : 2 < v2
  · refine fin (-1) (fun post h => ?_) (fun post h => ?_)
    · simp (disch := omega) only [wpX_getResource, wpX_isResource, e1, e2, e3, g0, g1, f0, f1, f2, nI_clamp, pk_us, am_uu, nI_1, nI_pred, am_ip, nI_add, am_m8, am_m4, vp_in_nI, true_and, and_true, forall_eq, true_implies, false_implies, not_true_eq_false, not_false_eq_true, am_ne_1_0, Int32.reduceLT, Int32.reduceLE]
      exact h
    · simp (disch := omega) only [wpY_getResource, e1, e2, e3, g0, g1, f0, f1, f2, nI_clamp, pk_us, am_uu, nI_1, nI_pred, am_ip, nI_add, am_m8, am_m4, vp_in_nI, true_and, and_true, forall_eq, true_implies, false_implies, not_true_eq_false, not_false_eq_true, am_ne_1_0, Int32.reduceLT, Int32.reduceLE]
      exact h
  exact am_no2 v2 g0 g1 f0 f1 f2
theorem i_vc_getCode {k : Nat} {u : SX} {v : SY} (I : i_Rel k u v) (hk : k + 4 ≤ 2050) (v1 : Int32) (v2 : Int32) : wpX_getCode (fun r => wpY_getCode (fun r' => r' = r ∧ i_Rel (k + 4) u v) v v1 v2) u v1 v2 := by
  obtain ⟨C, Z, N, M, co, ca, st, pc, mk, ex, sd, fd, pn, sk, fk, fa, fs, pX, pY, ho, aq, rl, rfl, rfl, hC, hZ, hN, hM, I, P⟩ := I
  have R : i_Rel (k + 4) (nI C, nI Z, nI N, nI M, co, ca, st, pc, mk, ex, sd, fd, pn, sk, fk, fa, fs, pX, ho, aq, rl) (nI C, nI Z, nI N, nI M, co, ca, st, pc, mk, ex, sd, fd, pn, sk, fk, fa, fs, pY, ho, aq, rl) := ⟨C, Z, N, M, co, ca, st, pc, mk, ex, sd, fd, pn, sk, fk, fa, fs, pX, pY, ho, aq, rl, rfl, rfl, hC, hZ, hN, hM, I, P⟩
  have fin : ∀ r : Int32, (∀ post : Int32 → Prop, post r → wpX_getCode post (nI C, nI Z, nI N, nI M, co, ca, st, pc, mk, ex, sd, fd, pn, sk, fk, fa, fs, pX, ho, aq, rl) v1 v2) → (∀ post : Int32 → Prop, post r → wpY_getCode post (nI C, nI Z, nI N, nI M, co, ca, st, pc, mk, ex, sd, fd, pn, sk, fk, fa, fs, pY, ho, aq, rl) v1 v2) → wpX_getCode (fun r => wpY_getCode (fun r' => r' = r ∧ i_Rel (k + 4) (nI C, nI Z, nI N, nI M, co, ca, st, pc, mk, ex, sd, fd, pn, sk, fk, fa, fs, pX, ho, aq, rl) (nI C, nI Z, nI N, nI M, co, ca, st, pc, mk, ex, sd, fd, pn, sk, fk, fa, fs, pY, ho, aq, rl)) (nI C, nI Z, nI N, nI M, co, ca, st, pc, mk, ex, sd, fd, pn, sk, fk, fa, fs, pY, ho, aq, rl) v1 v2) (nI C, nI Z, nI N, nI M, co, ca, st, pc, mk, ex, sd, fd, pn, sk, fk, fa, fs, pX, ho, aq, rl) v1 v2 := fun r hX hY => hX _ (hY _ ⟨rfl, R⟩)
  rcases pk_ix v1 (n := N) (by omega) with q | q | ⟨t, ht, rfl⟩
  · refine fin (-1) (fun post h => ?_) (fun post h => ?_)
    · simp (disch := omega) only [wpX_getCode, wpX_isCodeAddress, q, nI_clamp, pk_us, am_uu, nI_1, nI_pred, am_ip, nI_add, am_m8, am_m4, vp_in_nI, true_and, and_true, forall_eq, true_implies, false_implies, not_true_eq_false, not_false_eq_true, am_ne_1_0, Int32.reduceLT, Int32.reduceLE]
      exact h
    · simp (disch := omega) only [wpY_getCode, q, nI_clamp, pk_us, am_uu, nI_1, nI_pred, am_ip, nI_add, am_m8, am_m4, vp_in_nI, true_and, and_true, forall_eq, true_implies, false_implies, not_true_eq_false, not_false_eq_true, am_ne_1_0, Int32.reduceLT, Int32.reduceLE]
      exact h
  · have hz : ¬ v1 < 0 := am_nb (by omega) q
    have q7 : ¬ v1 < nI N := Int32.not_lt.mpr q
    refine fin (-1) (fun post h => ?_) (fun post h => ?_)
    · simp (disch := omega) only [wpX_getCode, wpX_isCodeAddress, q, q7, hz, nI_clamp, pk_us, am_uu, nI_1, nI_pred, am_ip, nI_add, am_m8, am_m4, vp_in_nI, true_and, and_true, forall_eq, true_implies, false_implies, not_true_eq_false, not_false_eq_true, am_ne_1_0, Int32.reduceLT, Int32.reduceLE]
      exact h
    · simp (disch := omega) only [wpY_getCode, q, q7, hz, nI_clamp, pk_us, am_uu, nI_1, nI_pred, am_ip, nI_add, am_m8, am_m4, vp_in_nI, true_and, and_true, forall_eq, true_implies, false_implies, not_true_eq_false, not_false_eq_true, am_ne_1_0, Int32.reduceLT, Int32.reduceLE]
      exact h
  have e1 : ¬ nI t < 0 := nI_pos (by omega)
  have e2 : ¬ nI N ≤ nI t := nI_ge ht (by omega)
  have e3 : nI t < nI N := nI_lt ht (by omega)
  by_cases f0 : v2 = 0
  · subst f0
    refine fin (co t) (fun post h => ?_) (fun post h => ?_)
    · simp (disch := omega) only [wpX_getCode, wpX_isCodeAddress, e1, e2, e3, nI_clamp, pk_us, am_uu, nI_1, nI_pred, am_ip, nI_add, am_m8, am_m4, vp_in_nI, true_and, and_true, forall_eq, true_implies, false_implies, not_true_eq_false, not_false_eq_true, am_ne_1_0, Int32.reduceLT, Int32.reduceLE]
      exact h
    · simp (disch := omega) only [wpY_getCode, e1, e2, e3, nI_clamp, pk_us, am_uu, nI_1, nI_pred, am_ip, nI_add, am_m8, am_m4, vp_in_nI, true_and, and_true, forall_eq, true_implies, false_implies, not_true_eq_false, not_false_eq_true, am_ne_1_0, Int32.reduceLT, Int32.reduceLE]
      exact h
  by_cases f1 : v2 = 1
  · subst f1
    refine fin (ca t) (fun post h => ?_) (fun post h => ?_)
    · simp (disch := omega) only [wpX_getCode, wpX_isCodeAddress, e1, e2, e3, am_ne_1_0, nI_clamp, pk_us, am_uu, nI_1, nI_pred, am_ip, nI_add, am_m8, am_m4, vp_in_nI, true_and, and_true, forall_eq, true_implies, false_implies, not_true_eq_false, not_false_eq_true, am_ne_1_0, Int32.reduceLT, Int32.reduceLE]
      exact h
    · simp (disch := omega) only [wpY_getCode, e1, e2, e3, am_ne_1_0, nI_clamp, pk_us, am_uu, nI_1, nI_pred, am_ip, nI_add, am_m8, am_m4, vp_in_nI, true_and, and_true, forall_eq, true_implies, false_implies, not_true_eq_false, not_false_eq_true, am_ne_1_0, Int32.reduceLT, Int32.reduceLE]
      exact h
  refine fin (-1) (fun post h => ?_) (fun post h => ?_)
  · simp (disch := omega) only [wpX_getCode, wpX_isCodeAddress, e1, e2, e3, f0, f1, nI_clamp, pk_us, am_uu, nI_1, nI_pred, am_ip, nI_add, am_m8, am_m4, vp_in_nI, true_and, and_true, forall_eq, true_implies, false_implies, not_true_eq_false, not_false_eq_true, am_ne_1_0, Int32.reduceLT, Int32.reduceLE]
    exact h
  · simp (disch := omega) only [wpY_getCode, e1, e2, e3, f0, f1, nI_clamp, pk_us, am_uu, nI_1, nI_pred, am_ip, nI_add, am_m8, am_m4, vp_in_nI, true_and, and_true, forall_eq, true_implies, false_implies, not_true_eq_false, not_false_eq_true, am_ne_1_0, Int32.reduceLT, Int32.reduceLE]
    exact h
end
