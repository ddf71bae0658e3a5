section A3
/-! the relation between the two states -/
def re_RU (r : Nat) (pt : Nat → Nat) (xrp xrA xrB xrC yrp yrq yrl : Nat → Int32) : Prop :=
  r ≤ 12 ∧ ∀ i, i < r → pt i ≤ 3 ∧ (xrp i) >>> ((1 : Int32) &&& 31) = nI (pt i) ∧ yrp i = nI (pt i) ∧ yrq (i * 3) = xrA i ∧ yrq (i * 3 + 1) = xrB i ∧ yrq (i * 3 + 2) = xrC i ∧ yrl i = if (xrp i) &&& 1 = 1 then 1 else 0
def re_BY (M : Nat → Nat) (n : Nat) (xby xim yle : Nat → Int32) : Prop :=
  n ≤ 120 ∧ yle 3 = nI n ∧ (∀ i, M i < 256) ∧ (∀ i, i < 360 → xim i = nI (M i)) ∧ (∀ i, i < 120 → xby i = nI (M (360 + i)))
def re_PW (b : Nat → Nat) (p : Nat) (xic xih xif : Nat → Int32) : Prop :=
  (∃ n, pl_WF b n) ∧ xif p = nI (pl_nf b) ∧ ∀ f, f < pl_nf b → xih (p * 4 + f) = nI (p * 120 + pl_hd b f) ∧ ∀ i, pl_IS b f i → xic (p * 120 + i) = nI (pl_C b f i)
def re_b (M : Nat → Nat) (p : Nat) : Nat → Nat := fun i => if i < 120 then M (p * 120 + i) else 0
theorem re_bi {M : Nat → Nat} {p i : Nat} (h : i < 120) : re_b M p i = M (p * 120 + i) := if_pos h
theorem re_bc {M M' : Nat → Nat} {p : Nat} (h : ∀ i, i < 120 → M' (p * 120 + i) = M (p * 120 + i)) : re_b M' p = re_b M p := by
  funext i
  by_cases e : i < 120
  · rw [re_bi e, re_bi e, h i e]
  · unfold re_b; rw [if_neg e, if_neg e]
def re_PL (M : Nat → Nat) (xld xic xih xif : Nat → Int32) : Prop :=
  ∀ p, p < 3 → ¬ xld p = 0 → re_PW (re_b M p) p xic xih xif
def re_BX (xld xop xbp xbq : Nat → Int32) : Prop :=
  ∀ x, x < 4 → ¬ xop x = 0 → ∃ p q, p < 3 ∧ q ≤ 2000 ∧ xbp x = nI p ∧ ¬ xld p = 0 ∧ xbq x = nI q
def re_I (r n : Nat) (pt M : Nat → Nat) (xrp xrA xrB xrC xby xld xim xic xih xif xop xbp xbq yrp yrq yrl yle : Nat → Int32) : Prop :=
  re_RU r pt xrp xrA xrB xrC yrp yrq yrl ∧ re_BY M n xby xim yle ∧ re_PL M xld xic xih xif ∧ re_BX xld xop xbp xbq
def i_Rel (k : Nat) (u : SX) (v : SY) : Prop :=
  ∃ (r n : Nat) (pt M : Nat → Nat) (xfc xrn xra xfi xfp xgn xac xlr : Int32) (xhm : Int64) (xrp xrA xrB xrC xby xhd xst xbg xco xen xre xld xim xic xih xif xop xbp xbq xsc xna xhe xlo xsk : Nat → Int32) (yps yfi yac : Int32) (yrp yrq yrl yle ywa yfn yat yhi ylo yen : Nat → Int32),
    u = (nI r, nI n, xfc, xrn, xra, xfi, xfp, xgn, xac, xlr, xhm, xrp, xrA, xrB, xrC, xby, xhd, xst, xbg, xco, xen, xre, xld, xim, xic, xih, xif, xop, xbp, xbq, xsc, xna, xhe, xlo, xsk) ∧ v = (nI r, xfp, xgn, yps, yfi, yac, xlr, xhm, yrp, yrq, yrl, fun i => nI (M i), yle, xld, ywa, xbp, xbq, xop, xsc, yfn, yat, yhi, ylo, yen) ∧
    re_I r n pt M xrp xrA xrB xrC xby xld xim xic xih xif xop xbp xbq yrp yrq yrl yle
variable {r n : Nat} {pt M : Nat → Nat} {xrc xbc xfc xrn xra xfi xfp xgn xac xlr : Int32} {xhm : Int64} {xrp xrA xrB xrC xby xhd xst xbg xco xen xre xld xim xic xih xif xop xbp xbq xsc xna xhe xlo xsk : Nat → Int32} {yru ypl ynu yps yfi yac yre : Int32} {yme : Int64} {yrp yrq yrl yby yle ypr ywa ybp ybq ybo ysc yfn yat yhi ylo yen : Nat → Int32}
theorem re_mk {k : Nat} (h : re_I r n pt M xrp xrA xrB xrC xby xld xim xic xih xif xop xbp xbq yrp yrq yrl yle) :
    i_Rel k (nI r, nI n, xfc, xrn, xra, xfi, xfp, xgn, xac, xlr, xhm, xrp, xrA, xrB, xrC, xby, xhd, xst, xbg, xco, xen, xre, xld, xim, xic, xih, xif, xop, xbp, xbq, xsc, xna, xhe, xlo, xsk) (nI r, xfp, xgn, yps, yfi, yac, xlr, xhm, yrp, yrq, yrl, fun i => nI (M i), yle, xld, ywa, xbp, xbq, xop, xsc, yfn, yat, yhi, ylo, yen) :=
  ⟨r, n, pt, M, xfc, xrn, xra, xfi, xfp, xgn, xac, xlr, xhm, xrp, xrA, xrB, xrC, xby, xhd, xst, xbg, xco, xen, xre, xld, xim, xic, xih, xif, xop, xbp, xbq, xsc, xna, xhe, xlo, xsk, yps, yfi, yac, yrp, yrq, yrl, yle, ywa, yfn, yat, yhi, ylo, yen, rfl, rfl, h⟩
theorem i_up {k : Nat} {u : SX} {v : SY} (h : i_Rel k u v) : i_Rel (k + 5) u v := h
theorem i_vc0 : wpX_init (fun u => wpY_init (fun v => i_Rel 0 u v)) := by
  have h : re_I 0 0 (fun _ => 0) (fun _ => 0) (fun _ => 0) (fun _ => 0) (fun _ => 0) (fun _ => 0) (fun _ => 0) (fun _ => 0) (fun _ => 0) (fun _ => 0) (fun _ => 0) (fun _ => 0) (fun _ => 0) (fun _ => 0) (fun _ => 0) (fun _ => 0) (fun _ => 0) (fun _ => 0) (fun _ => 0) := by
    refine ⟨⟨by omega, fun i hi => absurd hi (by omega)⟩, ⟨by omega, rfl, fun _ => by omega, fun _ _ => rfl, fun _ _ => rfl⟩, fun p _ hp => absurd rfl hp, fun x _ hx => absurd rfl hx⟩
  exact re_mk (k := 0) h
theorem i_vc_place {k : Nat} {u : SX} {v : SY} (I : i_Rel k u v) (hk : k + 5 ≤ 2560) : wpX_place (fun r => wpY_place (fun r' => r' = r ∧ i_Rel (k + 5) u v) v) u := by
  have J := I
  obtain ⟨r, n, pt, M, xfc, xrn, xra, xfi, xfp, xgn, xac, xlr, xhm, xrp, xrA, xrB, xrC, xby, xhd, xst, xbg, xco, xen, xre, xld, xim, xic, xih, xif, xop, xbp, xbq, xsc, xna, xhe, xlo, xsk, yps, yfi, yac, yrp, yrq, yrl, yle, ywa, yfn, yat, yhi, ylo, yen, rfl, rfl, h⟩ := I
  exact ⟨rfl, J⟩
theorem i_vc_number {k : Nat} {u : SX} {v : SY} (I : i_Rel k u v) (hk : k + 5 ≤ 2560) : wpX_number (fun r => wpY_number (fun r' => r' = r ∧ i_Rel (k + 5) u v) v) u := by
  have J := I
  obtain ⟨r, n, pt, M, xfc, xrn, xra, xfi, xfp, xgn, xac, xlr, xhm, xrp, xrA, xrB, xrC, xby, xhd, xst, xbg, xco, xen, xre, xld, xim, xic, xih, xif, xop, xbp, xbq, xsc, xna, xhe, xlo, xsk, yps, yfi, yac, yrp, yrq, yrl, yle, ywa, yfn, yat, yhi, ylo, yen, rfl, rfl, h⟩ := I
  exact ⟨rfl, J⟩
theorem i_vc_result {k : Nat} {u : SX} {v : SY} (I : i_Rel k u v) (hk : k + 5 ≤ 2560) : wpX_result (fun r => wpY_result (fun r' => r' = r ∧ i_Rel (k + 5) u v) v) u := by
  have J := I
  obtain ⟨r, n, pt, M, xfc, xrn, xra, xfi, xfp, xgn, xac, xlr, xhm, xrp, xrA, xrB, xrC, xby, xhd, xst, xbg, xco, xen, xre, xld, xim, xic, xih, xif, xop, xbp, xbq, xsc, xna, xhe, xlo, xsk, yps, yfi, yac, yrp, yrq, yrl, yle, ywa, yfn, yat, yhi, ylo, yen, rfl, rfl, h⟩ := I
  exact ⟨rfl, J⟩
theorem i_vc_memory {k : Nat} {u : SX} {v : SY} (I : i_Rel k u v) (hk : k + 5 ≤ 2560) : wpX_memory (fun r => wpY_memory (fun r' => r' = r ∧ i_Rel (k + 5) u v) v) u := by
  have J := I
  obtain ⟨r, n, pt, M, xfc, xrn, xra, xfi, xfp, xgn, xac, xlr, xhm, xrp, xrA, xrB, xrC, xby, xhd, xst, xbg, xco, xen, xre, xld, xim, xic, xih, xif, xop, xbp, xbq, xsc, xna, xhe, xlo, xsk, yps, yfi, yac, yrp, yrq, yrl, yle, ywa, yfn, yat, yhi, ylo, yen, rfl, rfl, h⟩ := I
  exact ⟨rfl, J⟩
theorem i_vc_unrule {k : Nat} {u : SX} {v : SY} (I : i_Rel k u v) (hk : k + 5 ≤ 2560) : wpX_unrule (fun r u' => wpY_unrule (fun r' v' => r' = r ∧ i_Rel (k + 5) u' v') v) u := by
  obtain ⟨r, n, pt, M, xfc, xrn, xra, xfi, xfp, xgn, xac, xlr, xhm, xrp, xrA, xrB, xrC, xby, xhd, xst, xbg, xco, xen, xre, xld, xim, xic, xih, xif, xop, xbp, xbq, xsc, xna, xhe, xlo, xsk, yps, yfi, yac, yrp, yrq, yrl, yle, ywa, yfn, yat, yhi, ylo, yen, rfl, rfl, h⟩ := I
  have h12 := h.1.1
  by_cases h0 : r = 0
  · subst h0
    exact br_t nI_0 (br_t nI_0 ⟨rfl, re_mk h⟩)
  · obtain ⟨q, rfl⟩ : ∃ q, r = q + 1 := ⟨r - 1, by omega⟩
    have hz : ¬ nI (q + 1) = 0 := nI_ne0 (by omega) (by omega)
    refine br_f hz (nm_r (nI_pred q) (br_f hz (nm_r (nI_pred q) ⟨rfl, re_mk ⟨⟨by omega, fun i hi => h.1.2 i (by omega)⟩, h.2⟩⟩)))
theorem i_vc_wipe {k : Nat} {u : SX} {v : SY} (I : i_Rel k u v) (hk : k + 5 ≤ 2560) : wpX_wipe (fun r u' => wpY_wipe (fun r' v' => r' = r ∧ i_Rel (k + 5) u' v') v) u := by
  obtain ⟨r, n, pt, M, xfc, xrn, xra, xfi, xfp, xgn, xac, xlr, xhm, xrp, xrA, xrB, xrC, xby, xhd, xst, xbg, xco, xen, xre, xld, xim, xic, xih, xif, xop, xbp, xbq, xsc, xna, xhe, xlo, xsk, yps, yfi, yac, yrp, yrq, yrl, yle, ywa, yfn, yat, yhi, ylo, yen, rfl, rfl, h⟩ := I
  refine nm_e (nm_e ⟨h.2.1.2.1, ?_⟩)
  exact re_mk (n := 0) ⟨h.1, ⟨by omega, pk_us, h.2.1.2.2⟩, h.2.2⟩
theorem i_vc_put {k : Nat} {u : SX} {v : SY} (I : i_Rel k u v) (hk : k + 5 ≤ 2560) (v1 : Int32) : wpX_put (fun r u' => wpY_put (fun r' v' => r' = r ∧ i_Rel (k + 5) u' v') v v1) u v1 := by
  obtain ⟨r, n, pt, M, xfc, xrn, xra, xfi, xfp, xgn, xac, xlr, xhm, xrp, xrA, xrB, xrC, xby, xhd, xst, xbg, xco, xen, xre, xld, xim, xic, xih, xif, xop, xbp, xbq, xsc, xna, xhe, xlo, xsk, yps, yfi, yac, yrp, yrq, yrl, yle, ywa, yfn, yat, yhi, ylo, yen, rfl, rfl, h⟩ := I
  obtain ⟨hR, ⟨hn, hl, hM, hi, hb⟩, hP, hB⟩ := h
  have h : re_I r n pt M xrp xrA xrB xrC xby xld xim xic xih xif xop xbp xbq yrp yrq yrl yle := ⟨hR, ⟨hn, hl, hM, hi, hb⟩, hP, hB⟩
  rcases ba_c v1 (n := 255) (by omega) with z | ⟨z, z1, z2⟩ | ⟨z, z1, z2, j, hj, rfl⟩
  · exact br_t z (br_t z ⟨rfl, re_mk h⟩)
  · exact br_f z (br_t z1 (br_f z (br_t z1 ⟨rfl, re_mk h⟩)))
  · by_cases h1 : n < 120
    · have e0 : nI n < 120 := nI_lt (b := 120) h1 (by decide)
      have e1 : vp_in (nI n) 120 := vp_in_nI h1 (by omega)
      have e2 : ¬ yle 3 = 120 := by rw [hl]; exact ba_ne (b := 120) (by omega) (by omega) (by omega)
      have e4 : 360 + yle 3 = nI (360 + n) := by rw [hl]; exact nI_add 360 n
      have e3 : vp_in (360 + yle 3) 480 := by rw [e4]; exact vp_in_nI (by omega) (by omega)
      have e5 : (nI n).toNatClampNeg = n := nI_clamp (by omega)
      have e6 : (360 + yle 3).toNatClampNeg = 360 + n := by rw [e4]; exact nI_clamp (by omega)
      have e7 : upd (fun i => nI (M i)) (360 + yle 3).toNatClampNeg (nI j) = fun i => nI (um_f M (360 + n) j i) := by rw [e6, um_upd]
      have e8 : upd yle 3 (yle 3 + 1) = upd yle 3 (nI (n + 1)) := by rw [hl, nI_1]
      have e9 : upd xby (nI n).toNatClampNeg (nI j) = upd xby n (nI j) := by rw [e5]
      refine br_f z (br_f z1 (br_t e0 ⟨e1, nm_r e9 (nm_r (nI_1 n) ?_)⟩))
      refine br_f z (br_f z1 (br_f e2 ⟨e3, nm_r e7 (nm_r e8 ⟨rfl, ?_⟩)⟩))
      refine re_mk (M := um_f M (360 + n) j) (n := n + 1) ⟨hR, ⟨by omega, pk_us, ?_, ?_, ?_⟩, ?_, hB⟩
      · intro i
        by_cases e : i = 360 + n
        · subst e; rw [um_s]; omega
        · rw [um_n e]; exact hM i
      · intro i h3
        rw [um_n (by omega)]; exact hi i h3
      · intro i h3
        by_cases e : i = n
        · subst e; rw [pk_us, um_s]
        · rw [pk_un e, um_n (by omega)]; exact hb i h3
      · intro p hp h3
        rw [re_bc fun i h4 => um_n (by omega)]
        exact hP p hp h3
    · have hn' : n = 120 := by omega
      have e0 : ¬ nI n < 120 := nI_nlt (b := 120) (by omega) (by omega)
      have e2 : yle 3 = 120 := by rw [hl, hn']; rfl
      exact br_f z (br_f z1 (br_f e0 (br_f z (br_f z1 (br_t e2 ⟨rfl, re_mk h⟩)))))
end A3
