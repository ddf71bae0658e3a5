section A3c
variable {r n : Nat} {pt M : Nat → Nat} {xrc xbc xfc xrn xra xfi xfp xgn xac xlr : Int32} {xhm : Int64} {xrp xrA xrB xrC xby xhd xst xbg xco xen xre xld xim xic xih xif xop xbp xbq xsc xna xhe xlo xsk : Nat → Int32} {yru ypl ynu yps yfi yac yre : Int32} {yme : Int64} {yrp yrq yrl yby yle ypr ywa ybp ybq ybo ysc yfn yat yhi ylo yen : Nat → Int32}
theorem i_vc_unrule {k : Nat} {u : SX} {v : SY} (I : i_Rel k u v) (hk : k + 5 ≤ 2560) : wpX_unrule (fun r u' => wpY_unrule (fun r' v' => r' = r ∧ i_Rel (k + 5) u' v') v) u := by
  obtain ⟨r, n, pt, M, xfc, xrn, xra, xfi, xfp, xgn, xac, xlr, xhm, xrp, xrA, xrB, xrC, xby, xhd, xst, xbg, xco, xen, xre, xld, xim, xic, xih, xif, xop, xbp, xbq, xsc, xna, xhe, xlo, xsk, yps, yfi, yac, yrp, yrq, yrl, yle, ywa, yfn, yat, yhi, ylo, yen, rfl, rfl, h⟩ := I
  have h12 := h.1.1
  by_cases h0 : r = 0
  · subst h0
    exact br_t nI_0 (br_t nI_0 ⟨rfl, re_mk h⟩)
  · obtain ⟨q, rfl⟩ : ∃ q, r = q + 1 := ⟨r - 1, by omega⟩
    have hz : ¬ nI (q + 1) = 0 := nI_ne0 (by omega) (by omega)
    refine br_f hz (nm_r (nI_pred q) (br_f hz (nm_r (nI_pred q) ⟨rfl, re_mk ⟨⟨by omega, fun i hi => h.1.2 i (by omega)⟩, h.2⟩⟩)))
theorem i_vc_wipe {k : Nat} {u : SX} {v : SY} (I : i_Rel k u v) (hk : k + 5 ≤ 2560) : wpX_wipe (fun r u' => wpY_wipe (fun r' v' => r' = r ∧ i_Rel (k + 5) u' v') v) u := by
  obtain ⟨r, n, pt, M, xfc, xrn, xra, xfi, xfp, xgn, xac, xlr, xhm, xrp, xrA, xrB, xrC, xby, xhd, xst, xbg, xco, xen, xre, xld, xim, xic, xih, xif, xop, xbp, xbq, xsc, xna, xhe, xlo, xsk, yps, yfi, yac, yrp, yrq, yrl, yle, ywa, yfn, yat, yhi, ylo, yen, rfl, rfl, h⟩ := I
  refine nm_e (nm_e ⟨h.2.1.2.1, ?_⟩)
  exact re_mk (n := 0) ⟨h.1, ⟨by omega, pk_us, h.2.1.2.2⟩, h.2.2⟩
theorem i_vc_put {k : Nat} {u : SX} {v : SY} (I : i_Rel k u v) (hk : k + 5 ≤ 2560) (v1 : Int32) : wpX_put (fun r u' => wpY_put (fun r' v' => r' = r ∧ i_Rel (k + 5) u' v') v v1) u v1 := by
  obtain ⟨r, n, pt, M, xfc, xrn, xra, xfi, xfp, xgn, xac, xlr, xhm, xrp, xrA, xrB, xrC, xby, xhd, xst, xbg, xco, xen, xre, xld, xim, xic, xih, xif, xop, xbp, xbq, xsc, xna, xhe, xlo, xsk, yps, yfi, yac, yrp, yrq, yrl, yle, ywa, yfn, yat, yhi, ylo, yen, rfl, rfl, h⟩ := I
  obtain ⟨hR, ⟨hn, hl, hM, hi, hb⟩, hP, hB⟩ := h
  have h : re_I r n pt M xrp xrA xrB xrC xby xld xim xic xih xif xop xbp xbq yrp yrq yrl yle := ⟨hR, ⟨hn, hl, hM, hi, hb⟩, hP, hB⟩
  rcases ba_c v1 (n := 255) (by omega) with z | ⟨z, z1, z2⟩ | ⟨z, z1, z2, j, hj, rfl⟩
  · exact br_t z (br_t z ⟨rfl, re_mk h⟩)
  · exact br_f z (br_t z1 (br_f z (br_t z1 ⟨rfl, re_mk h⟩)))
  · by_cases h1 : n < 120
    · have e0 : nI n < 120 := nI_lt (b := 120) h1 (by decide)
      have e1 : vp_in (nI n) 120 := vp_in_nI h1 (by omega)
      have e2 : ¬ yle 3 = 120 := by rw [hl]; exact ba_ne (b := 120) (by omega) (by omega) (by omega)
      have e4 : 360 + yle 3 = nI (360 + n) := by rw [hl]; exact nI_add 360 n
      have e3 : vp_in (360 + yle 3) 480 := by rw [e4]; exact vp_in_nI (by omega) (by omega)
      have e5 : (nI n).toNatClampNeg = n := nI_clamp (by omega)
      have e6 : (360 + yle 3).toNatClampNeg = 360 + n := by rw [e4]; exact nI_clamp (by omega)
      have e7 : upd (fun i => nI (M i)) (360 + yle 3).toNatClampNeg (nI j) = fun i => nI (um_f M (360 + n) j i) := by rw [e6, um_upd]
      have e8 : upd yle 3 (yle 3 + 1) = upd yle 3 (nI (n + 1)) := by rw [hl, nI_1]
      have e9 : upd xby (nI n).toNatClampNeg (nI j) = upd xby n (nI j) := by rw [e5]
      refine br_f z (br_f z1 (br_t e0 ⟨e1, nm_r e9 (nm_r (nI_1 n) ?_)⟩))
      refine br_f z (br_f z1 (br_f e2 ⟨e3, nm_r e7 (nm_r e8 ⟨rfl, ?_⟩)⟩))
      refine re_mk (M := um_f M (360 + n) j) (n := n + 1) ⟨hR, ⟨by omega, pk_us, ?_, ?_, ?_⟩, ?_, hB⟩
      · intro i
        by_cases e : i = 360 + n
        · subst e; rw [um_s]; omega
        · rw [um_n e]; exact hM i
      · intro i h3
        rw [um_n (by omega)]; exact hi i h3
      · intro i h3
        by_cases e : i = n
        · subst e; rw [pk_us, um_s]
        · rw [pk_un e, um_n (by omega)]; exact hb i h3
      · intro p hp h3
        rw [re_bc fun i h4 => um_n (by omega)]
        exact hP p hp h3
    · have hn' : n = 120 := by omega
      have e0 : ¬ nI n < 120 := nI_nlt (b := 120) (by omega) (by omega)
      have e2 : yle 3 = 120 := by rw [hl, hn']; rfl
      exact br_f z (br_f z1 (br_f e0 (br_f z (br_f z1 (br_t e2 ⟨rfl, re_mk h⟩)))))
end A3c
