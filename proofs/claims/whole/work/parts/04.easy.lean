section A4
variable {r n : Nat} {pt M : Nat → Nat} {xrc xbc xfc xrn xra xfi xfp xgn xac xlr : Int32} {xhm : Int64} {xrp xrA xrB xrC xby xhd xst xbg xco xen xre xld xim xic xih xif xop xbp xbq xsc xna xhe xlo xsk : Nat → Int32} {yru ypl ynu yps yfi yac yre : Int32} {yme : Int64} {yrp yrq yrl yby yle ypr ywa ybp ybq ybo ysc yfn yat yhi ylo yen : Nat → Int32}
def ru_P (x : Int32) : Prop := ¬ x < 0 ∧ ¬ 7 < x
def ru_G (t a b c : Int32) (r : Nat) : Prop := ¬ t < 0 ∧ ¬ 3 < t ∧ r < 12 ∧ (¬ t ≤ 0 → ru_P a) ∧ (¬ t ≤ 1 → ru_P b) ∧ (¬ t ≤ 2 → ru_P c)
theorem x_isPart {post : Int32 → Prop} {p : Int32} (h1 : ru_P p → post 1) (h0 : ¬ ru_P p → post 0) : wpX_isPart post (xrc, xbc, xfc, xrn, xra, xfi, xfp, xgn, xac, xlr, xhm, xrp, xrA, xrB, xrC, xby, xhd, xst, xbg, xco, xen, xre, xld, xim, xic, xih, xif, xop, xbp, xbq, xsc, xna, xhe, xlo, xsk) p :=
  br_c (fun h => h0 fun g => g.1 h) fun h => br_c (fun h' => h0 fun g => g.2 h') fun h' => h1 ⟨h, h'⟩
theorem x_rule71 {post : Int32 → SX → Prop} {p a b c : Int32} (hr : r < 12) (k : post 1 (nI (r + 1), xbc, xfc, xrn, xra, xfi, xfp, xgn, xac, xlr, xhm, upd xrp r p, upd xrA r a, upd xrB r b, upd xrC r c, xby, xhd, xst, xbg, xco, xen, xre, xld, xim, xic, xih, xif, xop, xbp, xbq, xsc, xna, xhe, xlo, xsk)) :
    wX_rule_71 post p a b c (nI r) xbc xfc xrn xra xfi xfp xgn xac xlr xhm xrp xrA xrB xrC xby xhd xst xbg xco xen xre xld xim xic xih xif xop xbp xbq xsc xna xhe xlo xsk := by
  have e1 : vp_in (nI r) 12 := vp_in_nI hr (by omega)
  have e : (nI r).toNatClampNeg = r := nI_clamp (by omega)
  unfold wX_rule_71
  rw [e]
  exact ⟨e1, nm_e ⟨e1, nm_e ⟨e1, nm_e ⟨e1, nm_e (nm_r (nI_1 r) k)⟩⟩⟩⟩
theorem x_rule {post : Int32 → SX → Prop} {p a b c t : Int32} (ht : p >>> ((1 : Int32) &&& 31) = t) (hr : r ≤ 12)
    (k1 : ru_G t a b c r → post 1 (nI (r + 1), xbc, xfc, xrn, xra, xfi, xfp, xgn, xac, xlr, xhm, upd xrp r p, upd xrA r a, upd xrB r b, upd xrC r c, xby, xhd, xst, xbg, xco, xen, xre, xld, xim, xic, xih, xif, xop, xbp, xbq, xsc, xna, xhe, xlo, xsk))
    (k0 : ¬ ru_G t a b c r → post 0 (nI r, xbc, xfc, xrn, xra, xfi, xfp, xgn, xac, xlr, xhm, xrp, xrA, xrB, xrC, xby, xhd, xst, xbg, xco, xen, xre, xld, xim, xic, xih, xif, xop, xbp, xbq, xsc, xna, xhe, xlo, xsk)) : wpX_rule post (nI r, xbc, xfc, xrn, xra, xfi, xfp, xgn, xac, xlr, xhm, xrp, xrA, xrB, xrC, xby, xhd, xst, xbg, xco, xen, xre, xld, xim, xic, xih, xif, xop, xbp, xbq, xsc, xna, xhe, xlo, xsk) p a b c := by
  unfold wpX_rule
  dsimp only
  refine nm_r ht ?_
  refine br_c (fun h => k0 fun g => g.1 h) fun h1 => br_c (fun h => k0 fun g => g.2.1 h) fun h2 => br_c (fun h3 => ?_) (fun h => k0 fun g => h (nI_lt (b := 12) g.2.2.1 (by decide)))
  have h3' : r < 12 := (nI_ltI (b := 12) (by omega) (by omega)).mp h3
  have s4 : (¬ t ≤ 0 → ru_P a) → (¬ t ≤ 1 → ru_P b) → wX_rule_54 post p a b c t (nI r) xbc xfc xrn xra xfi xfp xgn xac xlr xhm xrp xrA xrB xrC xby xhd xst xbg xco xen xre xld xim xic xih xif xop xbp xbq xsc xna xhe xlo xsk := fun g1 g2 =>
    br_c (fun h => x_rule71 h3' (k1 ⟨h1, h2, h3', g1, g2, fun z => absurd h z⟩)) fun h =>
      x_isPart (fun g => br_f ba_10 (x_rule71 h3' (k1 ⟨h1, h2, h3', g1, g2, fun _ => g⟩))) fun g => br_t rfl (k0 fun G => g (G.2.2.2.2.2 h))
  have s3 : (¬ t ≤ 0 → ru_P a) → wX_rule_40 post p a b c t (nI r) xbc xfc xrn xra xfi xfp xgn xac xlr xhm xrp xrA xrB xrC xby xhd xst xbg xco xen xre xld xim xic xih xif xop xbp xbq xsc xna xhe xlo xsk := fun g1 =>
    br_c (fun h => s4 g1 (fun z => absurd h z)) fun h =>
      x_isPart (fun g => br_f ba_10 (s4 g1 fun _ => g)) fun g => br_t rfl (k0 fun G => g (G.2.2.2.2.1 h))
  exact br_c (fun h => s3 fun z => absurd h z) fun h => x_isPart (fun g => br_f ba_10 (s3 fun _ => g)) fun g => br_t rfl (k0 fun G => g (G.2.2.2.1 h))
theorem y_rule78 {post : Int32 → SY → Prop} {p a b c t : Int32} (hr : r < 12) (k : post 1 (nI (r + 1), ypl, ynu, yps, yfi, yac, yre, yme, upd yrp r t, upd (upd (upd yrq (r * 3) a) (r * 3 + 1) b) (r * 3 + 2) c, upd yrl r (if p &&& 1 = 1 then 1 else 0), yby, yle, ypr, ywa, ybp, ybq, ybo, ysc, yfn, yat, yhi, ylo, yen)) :
    wY_rule_78 post p a b c t (nI r) ypl ynu yps yfi yac yre yme yrp yrq yrl yby yle ypr ywa ybp ybq ybo ysc yfn yat yhi ylo yen := by
  have e1 : vp_in (nI r) 12 := vp_in_nI hr (by omega)
  have e : (nI r).toNatClampNeg = r := nI_clamp (by omega)
  have m : nI r * 3 = nI (r * 3) := pk_mul r 3
  have m1 : nI (r * 3) + 1 = nI (r * 3 + 1) := nI_1 _
  have m2 : nI (r * 3) + 2 = nI (r * 3 + 2) := nI_add _ 2
  have c0 : (nI (r * 3)).toNatClampNeg = r * 3 := nI_clamp (by omega)
  have c1 : (nI (r * 3 + 1)).toNatClampNeg = r * 3 + 1 := nI_clamp (by omega)
  have c2 : (nI (r * 3 + 2)).toNatClampNeg = r * 3 + 2 := nI_clamp (by omega)
  unfold wY_rule_78
  rw [m, m1, m2, e, c0, c1, c2]
  refine ⟨e1, nm_e ⟨vp_in_nI (by omega) (by omega), nm_e ⟨vp_in_nI (by omega) (by omega), nm_e ⟨vp_in_nI (by omega) (by omega), nm_e (br_c (fun h => ?_) fun h => ?_)⟩⟩⟩⟩
  · rw [if_pos h] at k
    unfold wY_rule_150
    rw [e, ba_vb1]
    exact ⟨e1, nm_e (nm_r (nI_1 r) k)⟩
  · rw [if_neg h] at k
    unfold wY_rule_150
    rw [e, ba_vb0]
    exact ⟨e1, nm_e (nm_r (nI_1 r) k)⟩
theorem y_rule {post : Int32 → SY → Prop} {p a b c t : Int32} (ht : p >>> ((1 : Int32) &&& 31) = t) (hr : r ≤ 12)
    (k1 : ru_G t a b c r → post 1 (nI (r + 1), ypl, ynu, yps, yfi, yac, yre, yme, upd yrp r t, upd (upd (upd yrq (r * 3) a) (r * 3 + 1) b) (r * 3 + 2) c, upd yrl r (if p &&& 1 = 1 then 1 else 0), yby, yle, ypr, ywa, ybp, ybq, ybo, ysc, yfn, yat, yhi, ylo, yen))
    (k0 : ¬ ru_G t a b c r → post 0 (nI r, ypl, ynu, yps, yfi, yac, yre, yme, yrp, yrq, yrl, yby, yle, ypr, ywa, ybp, ybq, ybo, ysc, yfn, yat, yhi, ylo, yen)) : wpY_rule post (nI r, ypl, ynu, yps, yfi, yac, yre, yme, yrp, yrq, yrl, yby, yle, ypr, ywa, ybp, ybq, ybo, ysc, yfn, yat, yhi, ylo, yen) p a b c := by
  unfold wpY_rule
  dsimp only
  refine nm_r ht ?_
  refine br_c (fun h => k0 fun g => g.1 h) fun h1 => br_c (fun h => k0 fun g => g.2.1 h) fun h2 => br_c (fun h => k0 fun g => ?_) fun h3 => ?_
  · exact absurd h (ba_ne (b := 12) (by omega) (by omega) (by have := g.2.2.1; omega))
  have h3' : r < 12 := by
    by_cases e : r = 12
    · subst e; exact absurd rfl h3
    · omega
  have s4 : (¬ t ≤ 0 → ru_P a) → (¬ t ≤ 1 → ru_P b) → wY_rule_58 post p a b c t (nI r) ypl ynu yps yfi yac yre yme yrp yrq yrl yby yle ypr ywa ybp ybq ybo ysc yfn yat yhi ylo yen := fun g1 g2 =>
    br_c (fun h => y_rule78 h3' (k1 ⟨h1, h2, h3', g1, g2, fun z => absurd h z⟩)) fun h =>
      br_c (fun z => k0 fun G => (G.2.2.2.2.2 h).1 z) fun z1 => br_c (fun z2 => y_rule78 h3' (k1 ⟨h1, h2, h3', g1, g2, fun _ => ⟨z1, Int32.not_lt.mpr z2⟩⟩)) fun z2 => k0 fun G => z2 (Int32.not_lt.mp (G.2.2.2.2.2 h).2)
  have s3 : (¬ t ≤ 0 → ru_P a) → wY_rule_42 post p a b c t (nI r) ypl ynu yps yfi yac yre yme yrp yrq yrl yby yle ypr ywa ybp ybq ybo ysc yfn yat yhi ylo yen := fun g1 =>
    br_c (fun h => s4 g1 (fun z => absurd h z)) fun h =>
      br_c (fun z => k0 fun G => (G.2.2.2.2.1 h).1 z) fun z1 => br_c (fun z2 => k0 fun G => (G.2.2.2.2.1 h).2 z2) fun z2 => s4 g1 fun _ => ⟨z1, z2⟩
  exact br_c (fun h => s3 fun z => absurd h z) fun h => br_c (fun z => k0 fun G => (G.2.2.2.1 h).1 z) fun z1 => br_c (fun z2 => k0 fun G => (G.2.2.2.1 h).2 z2) fun z2 => s3 fun _ => ⟨z1, z2⟩
theorem i_vc_rule {k : Nat} {u : SX} {v : SY} (I : i_Rel k u v) (hk : k + 5 ≤ 2560) (v1 : Int32) (v2 : Int32) (v3 : Int32) (v4 : Int32) : wpX_rule (fun r u' => wpY_rule (fun r' v' => r' = r ∧ i_Rel (k + 5) u' v') v v1 v2 v3 v4) u v1 v2 v3 v4 := by
  obtain ⟨r, n, pt, M, xfc, xrn, xra, xfi, xfp, xgn, xac, xlr, xhm, xrp, xrA, xrB, xrC, xby, xhd, xst, xbg, xco, xen, xre, xld, xim, xic, xih, xif, xop, xbp, xbq, xsc, xna, xhe, xlo, xsk, yps, yfi, yac, yrp, yrq, yrl, yle, ywa, yfn, yat, yhi, ylo, yen, rfl, rfl, h⟩ := I
  obtain ⟨⟨h12, hR⟩, hh⟩ := h
  refine x_rule rfl h12 (fun G => ?_) fun G => ?_
  · refine y_rule rfl h12 (fun _ => ⟨rfl, ?_⟩) fun z => absurd G z
    obtain ⟨j, hj, ej⟩ := nI_of2 (M := 3) (n := 3) (by decide) G.1 (Int32.not_lt.mp G.2.1)
    have g3 : r < 12 := G.2.2.1
    rw [ej]
    refine re_mk (r := r + 1) (pt := um_f pt r j) ⟨⟨by omega, fun i hi => ?_⟩, hh⟩
    by_cases e : i = r
    · subst e
      rw [um_s, pk_us, pk_us, pk_us, pk_us, pk_us, pk_us, pk_un (show i * 3 ≠ i * 3 + 2 by omega), pk_un (show i * 3 ≠ i * 3 + 1 by omega), pk_us, pk_un (show i * 3 + 1 ≠ i * 3 + 2 by omega), pk_us, pk_us]
      exact ⟨hj, ej, rfl, rfl, rfl, rfl, rfl⟩
    · rw [um_n e, pk_un e, pk_un e, pk_un e, pk_un e, pk_un e, pk_un e, pk_un (show i * 3 ≠ r * 3 + 2 by omega), pk_un (show i * 3 ≠ r * 3 + 1 by omega), pk_un (show i * 3 ≠ r * 3 by omega), pk_un (show i * 3 + 1 ≠ r * 3 + 2 by omega), pk_un (show i * 3 + 1 ≠ r * 3 + 1 by omega), pk_un (show i * 3 + 1 ≠ r * 3 by omega), pk_un (show i * 3 + 2 ≠ r * 3 + 2 by omega), pk_un (show i * 3 + 2 ≠ r * 3 + 1 by omega), pk_un (show i * 3 + 2 ≠ r * 3 by omega)]
      exact hR i (by omega)
  · exact y_rule rfl h12 (fun z => absurd z G) fun _ => ⟨rfl, re_mk ⟨⟨h12, hR⟩, hh⟩⟩
def bo_ok (N : Nat) (o : Nat → Int32) (v : Int32) : Prop := ∃ j, j < N ∧ v = nI j ∧ ¬ o j = 0
theorem x_isBox {post : Int32 → Prop} {v : Int32} (h1 : ∀ j, j < 4 → v = nI j → ¬ xop j = 0 → post 1) (h0 : ¬ bo_ok 4 xop v → post 0) : wpX_isBox post (xrc, xbc, xfc, xrn, xra, xfi, xfp, xgn, xac, xlr, xhm, xrp, xrA, xrB, xrC, xby, xhd, xst, xbg, xco, xen, xre, xld, xim, xic, xih, xif, xop, xbp, xbq, xsc, xna, xhe, xlo, xsk) v := by
  refine br_c (fun h => h0 fun ⟨j, hj, e, _⟩ => nI_pos (n := j) (by omega) (e ▸ h)) fun h => br_c (fun h' => h0 fun ⟨j, hj, e, _⟩ => nI_ge (b := 4) hj (by decide) (e ▸ h')) fun h' => ?_
  obtain ⟨j, hj, rfl⟩ := nI_of h
  have hj4 : j < 4 := by
    have := (not_congr (nI_leI (a := 4) (by omega) hj)).mp h'
    omega
  have e : (nI j).toNatClampNeg = j := nI_clamp hj
  refine ⟨vp_in_nI hj4 (by omega), ?_⟩
  rw [e]
  exact br_c (fun z => h0 fun ⟨i, hi, e', z'⟩ => z' (((nI_eq hj (by omega)).mp e') ▸ z)) fun z => h1 j hj4 rfl z
theorem y_isOpen {post : Int32 → Prop} {v : Int32} (h1 : ∀ j, j < 4 → v = nI j → ¬ ybo j = 0 → post 1) (h0 : ¬ bo_ok 4 ybo v → post 0) : wpY_isOpen post (yru, ypl, ynu, yps, yfi, yac, yre, yme, yrp, yrq, yrl, yby, yle, ypr, ywa, ybp, ybq, ybo, ysc, yfn, yat, yhi, ylo, yen) v := by
  refine br_c (fun h => h0 fun ⟨j, hj, e, _⟩ => nI_pos (n := j) (by omega) (e ▸ h)) fun h => br_c (fun h' => h0 fun ⟨j, hj, e, _⟩ => nI_nlt (a := 3) (b := j) (by omega) (by omega) (e ▸ h')) fun h' => ?_
  obtain ⟨j, hj, rfl⟩ := nI_of h
  have hj4 : j < 4 := by
    have := (not_congr (nI_ltI (a := 3) (by omega) hj)).mp h'
    omega
  have e : (nI j).toNatClampNeg = j := nI_clamp hj
  refine ⟨vp_in_nI hj4 (by omega), ?_⟩
  rw [e]
  exact br_c (fun z => h0 fun ⟨i, hi, e', z'⟩ => z' (((nI_eq hj (by omega)).mp e') ▸ z)) fun z => h1 j hj4 rfl z
theorem x_isPlugin {post : Int32 → Prop} {v : Int32} (h1 : ∀ j, j < 3 → v = nI j → ¬ xld j = 0 → post 1) (h0 : ¬ bo_ok 3 xld v → post 0) : wpX_isPlugin post (xrc, xbc, xfc, xrn, xra, xfi, xfp, xgn, xac, xlr, xhm, xrp, xrA, xrB, xrC, xby, xhd, xst, xbg, xco, xen, xre, xld, xim, xic, xih, xif, xop, xbp, xbq, xsc, xna, xhe, xlo, xsk) v := by
  refine br_c (fun h => h0 fun ⟨j, hj, e, _⟩ => nI_pos (n := j) (by omega) (e ▸ h)) fun h => br_c (fun h' => h0 fun ⟨j, hj, e, _⟩ => nI_ge (b := 3) hj (by decide) (e ▸ h')) fun h' => ?_
  obtain ⟨j, hj, rfl⟩ := nI_of h
  have hj4 : j < 3 := by
    have := (not_congr (nI_leI (a := 3) (by omega) hj)).mp h'
    omega
  have e : (nI j).toNatClampNeg = j := nI_clamp hj
  refine ⟨vp_in_nI hj4 (by omega), ?_⟩
  rw [e]
  exact br_c (fun z => h0 fun ⟨i, hi, e', z'⟩ => z' (((nI_eq hj (by omega)).mp e') ▸ z)) fun z => h1 j hj4 rfl z
theorem y_plug {A B : Prop} {v : Int32} {o : Nat → Int32} (h1 : ∀ j, j < 3 → v = nI j → ¬ o j = 0 → B) (h0 : ¬ bo_ok 3 o v → A) :
    (v < 0 → A) ∧ (¬ v < 0 → ((2 < v → A) ∧ (¬ 2 < v → (vp_in v 4 ∧ ((o v.toNatClampNeg = 0 → A) ∧ (¬ o v.toNatClampNeg = 0 → B)))))) := by
  refine br_c (fun h => h0 fun ⟨j, hj, e, _⟩ => nI_pos (n := j) (by omega) (e ▸ h)) fun h => br_c (fun h' => h0 fun ⟨j, hj, e, _⟩ => nI_nlt (a := 2) (b := j) (by omega) (by omega) (e ▸ h')) fun h' => ?_
  obtain ⟨j, hj, rfl⟩ := nI_of h
  have hj4 : j < 3 := by
    have := (not_congr (nI_ltI (a := 2) (by omega) hj)).mp h'
    omega
  have e : (nI j).toNatClampNeg = j := nI_clamp hj
  refine ⟨vp_in_nI (by omega) (by omega), ?_⟩
  rw [e]
  exact br_c (fun z => h0 fun ⟨i, hi, e', z'⟩ => z' (((nI_eq hj (by omega)).mp e') ▸ z)) fun z => h1 j hj4 rfl z
theorem i_vc_left {k : Nat} {u : SX} {v : SY} (I : i_Rel k u v) (hk : k + 5 ≤ 2560) (v1 : Int32) : wpX_left (fun r => wpY_left (fun r' => r' = r ∧ i_Rel (k + 5) u v) v v1) u v1 := by
  have J := I
  obtain ⟨r, n, pt, M, xfc, xrn, xra, xfi, xfp, xgn, xac, xlr, xhm, xrp, xrA, xrB, xrC, xby, xhd, xst, xbg, xco, xen, xre, xld, xim, xic, xih, xif, xop, xbp, xbq, xsc, xna, xhe, xlo, xsk, yps, yfi, yac, yrp, yrq, yrl, yle, ywa, yfn, yat, yhi, ylo, yen, rfl, rfl, h⟩ := I
  unfold wpX_left wpY_left
  dsimp only
  refine x_isBox (fun j hj e z => ?_) fun z => ?_
  · subst e
    refine br_f ba_10 ⟨vp_in_nI hj (by omega), y_isOpen (fun _ _ _ _ => br_f ba_10 ⟨vp_in_nI hj (by omega), rfl, J⟩) fun z' => absurd ⟨j, hj, rfl, z⟩ z'⟩
  · exact br_t rfl (y_isOpen (fun j hj e z' => absurd ⟨j, hj, e, z'⟩ z) fun _ => br_t rfl ⟨rfl, J⟩)
theorem i_vc_peek {k : Nat} {u : SX} {v : SY} (I : i_Rel k u v) (hk : k + 5 ≤ 2560) (v1 : Int32) (v2 : Int32) : wpX_peek (fun r => wpY_peek (fun r' => r' = r ∧ i_Rel (k + 5) u v) v v1 v2) u v1 v2 := by
  have J := I
  obtain ⟨r, n, pt, M, xfc, xrn, xra, xfi, xfp, xgn, xac, xlr, xhm, xrp, xrA, xrB, xrC, xby, xhd, xst, xbg, xco, xen, xre, xld, xim, xic, xih, xif, xop, xbp, xbq, xsc, xna, xhe, xlo, xsk, yps, yfi, yac, yrp, yrq, yrl, yle, ywa, yfn, yat, yhi, ylo, yen, rfl, rfl, h⟩ := I
  unfold wpX_peek wpY_peek
  dsimp only
  refine x_isBox (fun j hj e z => ?_) fun z => ?_
  · subst e
    refine br_f ba_10 ?_
    have K : ∀ {P : Int32 → Prop}, (br : P 1) → wpY_isOpen P (nI r, xfp, xgn, yps, yfi, yac, xlr, xhm, yrp, yrq, yrl, fun i => nI (M i), yle, xld, ywa, xbp, xbq, xop, xsc, yfn, yat, yhi, ylo, yen) (nI j) := fun br => y_isOpen (fun _ _ _ _ => br) fun z' => absurd ⟨j, hj, rfl, z⟩ z'
    by_cases h0 : v2 < 0
    · exact br_t h0 (K (br_f ba_10 (br_t h0 ⟨rfl, J⟩)))
    · obtain ⟨i, hi, rfl⟩ := nI_of h0
      by_cases h4 : i < 4
      · have e1 : ¬ (4 : Int32) ≤ nI i := nI_ge (b := 4) h4 (by decide)
        have e2 : ¬ (3 : Int32) < nI i := nI_nlt (a := 3) (by omega) (by omega)
        have e3 : nI j * 4 + nI i = nI (j * 4 + i) := by rw [show nI j * 4 = nI (j * 4) from pk_mul j 4, nI_add]
        have e4 : vp_in (nI j * 4 + nI i) 16 := by rw [e3]; exact vp_in_nI (by omega) (by omega)
        exact br_f h0 (br_f e1 ⟨e4, K (br_f ba_10 (br_f h0 (br_f e2 ⟨e4, rfl, J⟩)))⟩)
      · have e1 : (4 : Int32) ≤ nI i := nI_le (a := 4) (by omega) (by omega)
        have e2 : (3 : Int32) < nI i := nI_lt (a := 3) (by omega) (by omega)
        exact br_f h0 (br_t e1 (K (br_f ba_10 (br_f h0 (br_t e2 ⟨rfl, J⟩)))))
  · exact br_t rfl (y_isOpen (fun j hj e z' => absurd ⟨j, hj, e, z'⟩ z) fun _ => br_t rfl ⟨rfl, J⟩)
theorem i_vc_close {k : Nat} {u : SX} {v : SY} (I : i_Rel k u v) (hk : k + 5 ≤ 2560) (v1 : Int32) : wpX_close (fun r u' => wpY_close (fun r' v' => r' = r ∧ i_Rel (k + 5) u' v') v v1) u v1 := by
  obtain ⟨r, n, pt, M, xfc, xrn, xra, xfi, xfp, xgn, xac, xlr, xhm, xrp, xrA, xrB, xrC, xby, xhd, xst, xbg, xco, xen, xre, xld, xim, xic, xih, xif, xop, xbp, xbq, xsc, xna, xhe, xlo, xsk, yps, yfi, yac, yrp, yrq, yrl, yle, ywa, yfn, yat, yhi, ylo, yen, rfl, rfl, h⟩ := I
  unfold wpX_close
  dsimp only
  refine x_isBox (fun j hj e z => ?_) fun z => ?_
  · subst e
    refine br_f ba_10 ⟨vp_in_nI hj (by omega), nm_e ?_⟩
    unfold wpY_close
    dsimp only
    refine y_isOpen (fun _ _ _ _ => br_f ba_10 ⟨vp_in_nI hj (by omega), nm_e ⟨rfl, ?_⟩⟩) fun z' => absurd ⟨j, hj, rfl, z⟩ z'
    refine re_mk ⟨h.1, h.2.1, h.2.2.1, fun x hx hz => ?_⟩
    rw [nI_clamp (by omega), ba_vb0] at hz
    by_cases e : x = j
    · subst e; rw [pk_us] at hz; exact absurd rfl hz
    · rw [pk_un e] at hz; exact h.2.2.2 x hx hz
  · refine br_t rfl ?_
    unfold wpY_close
    dsimp only
    exact y_isOpen (fun j hj e z' => absurd ⟨j, hj, e, z'⟩ z) fun _ => br_t rfl ⟨rfl, re_mk h⟩
end A4
