theorem am_ip (a d : Nat) : nI (a + (d + 1)) - 1 = nI (a + d) := nI_pred (a + d)
def am_Out (C Z N M : Nat) (co ca : Nat → Int32) (WX : (SX → Prop) → Prop) (WY : (SY → Prop) → Prop) : Prop := ∃ st pc mk ex sd fd pn sk fk fa fs pX pY ho aq rl : Nat → Int32, am_I M st mk ex sd fd pn fk fa ∧ am_P pn pX pY ∧ (∀ post : SX → Prop, post (nI C, nI Z, nI N, nI M, co, ca, st, pc, mk, ex, sd, fd, pn, sk, fk, fa, fs, pX, ho, aq, rl) → WX post) ∧ (∀ post : SY → Prop, post (nI C, nI Z, nI N, nI M, co, ca, st, pc, mk, ex, sd, fd, pn, sk, fk, fa, fs, pY, ho, aq, rl) → WY post)
def am_ho (fk fa ho : Nat → Int32) (i : Nat) : Nat → Int32 := if fk i = 3 then upd ho (fa i).toNatClampNeg (-1) else ho
def am_rl (fk fa rl : Nat → Int32) (i : Nat) : Nat → Int32 := if fk i = 3 then upd rl (fa i).toNatClampNeg (rl (fa i).toNatClampNeg + 1) else rl
section
variable {C Z N M t p d : Nat} {co ca st pc mk ex sd fd pn sk fk fa fs pd pX pY ho aq rl : Nat → Int32}
theorem am_X_pop (hF : am_F fk fa) (ht : t < 4) (hd : d < 8) (hf : fd t = nI (d + 1)) {post : Int32 → SX → Prop} (h : post (nI (t * 8 + d)) (nI C, nI Z, nI N, nI M, co, ca, st, pc, (upd mk t (fs (t * 8 + d))), ex, sd, (upd fd t (nI d)), pn, sk, fk, fa, fs, pd, (am_ho fk fa ho (t * 8 + d)), aq, (am_rl fk fa rl (t * 8 + d)))) : wpX_popFrame post (nI C, nI Z, nI N, nI M, co, ca, st, pc, mk, ex, sd, fd, pn, sk, fk, fa, fs, pd, ho, aq, rl) (nI t) := by
  by_cases hk : fk (t * 8 + d) = 3
  · obtain ⟨r, hr, hfa⟩ := hF _ hk
    simp (disch := omega) only [am_ho, am_rl, hk, hfa, if_true, nI_clamp, pk_us, am_uu, nI_1, nI_pred, am_ip, nI_add, am_m8, am_m4, vp_in_nI, true_and, and_true, forall_eq, true_implies, false_implies, not_true_eq_false, not_false_eq_true, Int32.reduceEq, Int32.reduceLT, Int32.reduceLE] at h
    simp (disch := omega) only [wpX_popFrame, hf, hk, hfa, nI_clamp, pk_us, am_uu, nI_1, nI_pred, am_ip, nI_add, am_m8, am_m4, vp_in_nI, true_and, and_true, forall_eq, true_implies, false_implies, not_true_eq_false, not_false_eq_true, Int32.reduceEq, Int32.reduceLT, Int32.reduceLE]
    exact h
  · simp only [am_ho, am_rl, hk, if_false] at h
    simp (disch := omega) only [wpX_popFrame, hf, hk, nI_clamp, pk_us, am_uu, nI_1, nI_pred, am_ip, nI_add, am_m8, am_m4, vp_in_nI, true_and, and_true, forall_eq, true_implies, false_implies, not_true_eq_false, not_false_eq_true, Int32.reduceEq, Int32.reduceLT, Int32.reduceLE]
    exact h
theorem am_Y_pop (hF : am_F fk fa) (ht : t < 4) (hd : d < 8) (hf : fd t = nI (d + 1)) {post : Int32 → SY → Prop} (h : post (nI (t * 8 + d)) (nI C, nI Z, nI N, nI M, co, ca, st, pc, (upd mk t (fs (t * 8 + d))), ex, sd, (upd fd t (nI d)), pn, sk, fk, fa, fs, pd, (am_ho fk fa ho (t * 8 + d)), aq, (am_rl fk fa rl (t * 8 + d)))) : wpY_popFrame post (nI C, nI Z, nI N, nI M, co, ca, st, pc, mk, ex, sd, fd, pn, sk, fk, fa, fs, pd, ho, aq, rl) (nI t) := by
  by_cases hk : fk (t * 8 + d) = 3
  · obtain ⟨r, hr, hfa⟩ := hF _ hk
    simp (disch := omega) only [am_ho, am_rl, hk, hfa, if_true, nI_clamp, pk_us, am_uu, nI_1, nI_pred, am_ip, nI_add, am_m8, am_m4, vp_in_nI, true_and, and_true, forall_eq, true_implies, false_implies, not_true_eq_false, not_false_eq_true, Int32.reduceEq, Int32.reduceLT, Int32.reduceLE] at h
    simp (disch := omega) only [wpY_popFrame, wpY_release, hf, hk, hfa, nI_clamp, pk_us, am_uu, nI_1, nI_pred, am_ip, nI_add, am_m8, am_m4, vp_in_nI, true_and, and_true, forall_eq, true_implies, false_implies, not_true_eq_false, not_false_eq_true, Int32.reduceEq, Int32.reduceLT, Int32.reduceLE]
    exact h
  · simp only [am_ho, am_rl, hk, if_false] at h
    simp (disch := omega) only [wpY_popFrame, hf, hk, nI_clamp, pk_us, am_uu, nI_1, nI_pred, am_ip, nI_add, am_m8, am_m4, vp_in_nI, true_and, and_true, forall_eq, true_implies, false_implies, not_true_eq_false, not_false_eq_true, Int32.reduceEq, Int32.reduceLT, Int32.reduceLE]
    exact h
end
