section A3
/-! the relation between the two states -/
def re_RU (r : Nat) (pt : Nat → Nat) (xrp xrA xrB xrC yrp yrq yrl : Nat → Int32) : Prop :=
  r ≤ 12 ∧ ∀ i, i < r → pt i ≤ 3 ∧ (xrp i) >>> ((1 : Int32) &&& 31) = nI (pt i) ∧ yrp i = nI (pt i) ∧ yrq (i * 3) = xrA i ∧ yrq (i * 3 + 1) = xrB i ∧ yrq (i * 3 + 2) = xrC i ∧ yrl i = if (xrp i) &&& 1 = 1 then 1 else 0
def re_BY (M : Nat → Nat) (n : Nat) (xby xim yle : Nat → Int32) : Prop :=
  n ≤ 120 ∧ yle 3 = nI n ∧ (∀ i, M i < 256) ∧ (∀ i, i < 360 → xim i = nI (M i)) ∧ (∀ i, i < 120 → xby i = nI (M (360 + i)))
def re_PW (b : Nat → Nat) (p : Nat) (xic xih xif : Nat → Int32) : Prop :=
  (∃ n, pl_WF b n) ∧ xif p = nI (pl_nf b) ∧ ∀ f, f < pl_nf b → xih (p * 4 + f) = nI (p * 120 + pl_hd b f) ∧ ∀ i, pl_IS b f i → xic (p * 120 + i) = nI (pl_C b f i)
def re_b (M : Nat → Nat) (p : Nat) : Nat → Nat := fun i => if i < 120 then M (p * 120 + i) else 0
theorem re_bi {M : Nat → Nat} {p i : Nat} (h : i < 120) : re_b M p i = M (p * 120 + i) := if_pos h
theorem re_bc {M M' : Nat → Nat} {p : Nat} (h : ∀ i, i < 120 → M' (p * 120 + i) = M (p * 120 + i)) : re_b M' p = re_b M p := by
  funext i
  by_cases e : i < 120
  · rw [re_bi e, re_bi e, h i e]
  · unfold re_b; rw [if_neg e, if_neg e]
def re_PL (M : Nat → Nat) (xld xic xih xif : Nat → Int32) : Prop :=
  ∀ p, p < 3 → ¬ xld p = 0 → re_PW (re_b M p) p xic xih xif
def re_BX (xld xop xbp xbq : Nat → Int32) : Prop :=
  ∀ x, x < 4 → ¬ xop x = 0 → ∃ p q, p < 3 ∧ q ≤ 2000 ∧ xbp x = nI p ∧ ¬ xld p = 0 ∧ xbq x = nI q
def re_I (r n : Nat) (pt M : Nat → Nat) (xrp xrA xrB xrC xby xld xim xic xih xif xop xbp xbq yrp yrq yrl yle : Nat → Int32) : Prop :=
  re_RU r pt xrp xrA xrB xrC yrp yrq yrl ∧ re_BY M n xby xim yle ∧ re_PL M xld xic xih xif ∧ re_BX xld xop xbp xbq
def i_Rel (k : Nat) (u : SX) (v : SY) : Prop :=
  ∃ (r n : Nat) (pt M : Nat → Nat) (xfc xrn xra xfi xfp xgn xac xlr : Int32) (xhm : Int64) (xrp xrA xrB xrC xby xhd xst xbg xco xen xre xld xim xic xih xif xop xbp xbq xsc xna xhe xlo xsk : Nat → Int32) (yps yfi yac : Int32) (yrp yrq yrl yle ywa yfn yat yhi ylo yen : Nat → Int32),
    u = (nI r, nI n, xfc, xrn, xra, xfi, xfp, xgn, xac, xlr, xhm, xrp, xrA, xrB, xrC, xby, xhd, xst, xbg, xco, xen, xre, xld, xim, xic, xih, xif, xop, xbp, xbq, xsc, xna, xhe, xlo, xsk) ∧ v = (nI r, xfp, xgn, yps, yfi, yac, xlr, xhm, yrp, yrq, yrl, fun i => nI (M i), yle, xld, ywa, xbp, xbq, xop, xsc, yfn, yat, yhi, ylo, yen) ∧
    re_I r n pt M xrp xrA xrB xrC xby xld xim xic xih xif xop xbp xbq yrp yrq yrl yle
variable {r n : Nat} {pt M : Nat → Nat} {xrc xbc xfc xrn xra xfi xfp xgn xac xlr : Int32} {xhm : Int64} {xrp xrA xrB xrC xby xhd xst xbg xco xen xre xld xim xic xih xif xop xbp xbq xsc xna xhe xlo xsk : Nat → Int32} {yru ypl ynu yps yfi yac yre : Int32} {yme : Int64} {yrp yrq yrl yby yle ypr ywa ybp ybq ybo ysc yfn yat yhi ylo yen : Nat → Int32}
theorem re_mk {k : Nat} (h : re_I r n pt M xrp xrA xrB xrC xby xld xim xic xih xif xop xbp xbq yrp yrq yrl yle) :
    i_Rel k (nI r, nI n, xfc, xrn, xra, xfi, xfp, xgn, xac, xlr, xhm, xrp, xrA, xrB, xrC, xby, xhd, xst, xbg, xco, xen, xre, xld, xim, xic, xih, xif, xop, xbp, xbq, xsc, xna, xhe, xlo, xsk) (nI r, xfp, xgn, yps, yfi, yac, xlr, xhm, yrp, yrq, yrl, fun i => nI (M i), yle, xld, ywa, xbp, xbq, xop, xsc, yfn, yat, yhi, ylo, yen) :=
  ⟨r, n, pt, M, xfc, xrn, xra, xfi, xfp, xgn, xac, xlr, xhm, xrp, xrA, xrB, xrC, xby, xhd, xst, xbg, xco, xen, xre, xld, xim, xic, xih, xif, xop, xbp, xbq, xsc, xna, xhe, xlo, xsk, yps, yfi, yac, yrp, yrq, yrl, yle, ywa, yfn, yat, yhi, ylo, yen, rfl, rfl, h⟩
theorem i_up {k : Nat} {u : SX} {v : SY} (h : i_Rel k u v) : i_Rel (k + 5) u v := h
theorem i_vc0 : wpX_init (fun u => wpY_init (fun v => i_Rel 0 u v)) := by
  have h : re_I 0 0 (fun _ => 0) (fun _ => 0) (fun _ => 0) (fun _ => 0) (fun _ => 0) (fun _ => 0) (fun _ => 0) (fun _ => 0) (fun _ => 0) (fun _ => 0) (fun _ => 0) (fun _ => 0) (fun _ => 0) (fun _ => 0) (fun _ => 0) (fun _ => 0) (fun _ => 0) (fun _ => 0) (fun _ => 0) := by
    refine ⟨⟨by omega, fun i hi => absurd hi (by omega)⟩, ⟨by omega, rfl, fun _ => (by decide : 0 < 256), fun _ _ => rfl, fun _ _ => rfl⟩, fun p _ hp => absurd rfl hp, fun x _ hx => absurd rfl hx⟩
  exact re_mk (k := 0) h
end A3
