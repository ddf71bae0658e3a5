section A5
variable {r n : Nat} {pt M : Nat → Nat} {xrc xbc xfc xrn xra xfi xfp xgn xac xlr : Int32} {xhm : Int64} {xrp xrA xrB xrC xby xhd xst xbg xco xen xre xld xim xic xih xif xop xbp xbq xsc xna xhe xlo xsk : Nat → Int32} {yru ypl ynu yps yfi yac yre : Int32} {yme : Int64} {yrp yrq yrl yby yle ypr ywa ybp ybq ybo ysc yfn yat yhi ylo yen : Nat → Int32}
/-- k zeros from base on -/
def zz_f (g : Nat → Int32) (base : Nat) : Nat → (Nat → Int32)
  | 0 => g
  | k + 1 => upd (zz_f g base k) (base + k) 0
theorem x_prep24 {post : SX → Prop} {x : Nat} (hx : x < 4) (k : post (xrc, xbc, xfc, xrn, xra, xfi, xfp, xgn, xac, xlr, xhm, xrp, xrA, xrB, xrC, xby, xhd, xst, xbg, xco, xen, xre, xld, xim, xic, xih, xif, xop, xbp, xbq, zz_f xsc (x * 4) 4, xna, xhe, xlo, xsk)) : ∀ d s, s + d = 4 →
    wX_prepareBox_24 post (nI x) xrc xbc xfc xrn xra xfi xfp xgn xac xlr xhm (d + 1) (nI s) xrp xrA xrB xrC xby xhd xst xbg xco xen xre xld xim xic xih xif xop xbp xbq (zz_f xsc (x * 4) s) xna xhe xlo xsk := by
  intro d
  induction d with
  | zero =>
    intro s hs
    have : s = 4 := by omega
    subst this
    exact br_t (nI_le (a := 4) (b := 4) (by omega) (by omega)) k
  | succ d ih =>
    intro s hs
    have e3 : nI x * 4 + nI s = nI (x * 4 + s) := by rw [show nI x * 4 = nI (x * 4) from pk_mul x 4, nI_add]
    have e5 : upd (zz_f xsc (x * 4) s) (nI x * 4 + nI s).toNatClampNeg 0 = zz_f xsc (x * 4) (s + 1) := by rw [e3, nI_clamp (by omega)]; rfl
    refine br_f (nI_ge (b := 4) (by omega) (by decide)) ⟨by rw [e3]; exact vp_in_nI (by omega) (by omega), nm_r e5 (nm_r (nI_1 s) (ih (s + 1) (by omega)))⟩
theorem x_prep {post : SX → Prop} {x : Nat} {p q : Int32} (hx : x < 4) (k : post (xrc, xbc, xfc, xrn, xra, xfi, xfp, xgn, xac, xlr, xhm, xrp, xrA, xrB, xrC, xby, xhd, xst, xbg, xco, xen, xre, xld, xim, xic, xih, xif, upd xop x 1, upd xbp x p, upd xbq x q, zz_f xsc (x * 4) 4, xna, xhe, xlo, xsk)) : wpX_prepareBox post (xrc, xbc, xfc, xrn, xra, xfi, xfp, xgn, xac, xlr, xhm, xrp, xrA, xrB, xrC, xby, xhd, xst, xbg, xco, xen, xre, xld, xim, xic, xih, xif, xop, xbp, xbq, xsc, xna, xhe, xlo, xsk) (nI x) p q := by
  unfold wpX_prepareBox
  dsimp only
  rw [nI_clamp (by omega), ba_vb1]
  have e := vp_in_nI (n := x) (N := 4) hx (by omega)
  exact ⟨e, nm_e ⟨e, nm_e ⟨e, nm_e ⟨5, x_prep24 hx k 4 0 rfl⟩⟩⟩⟩
theorem y_open84 {post : Int32 → SY → Prop} {x : Nat} (hx : x < 4) (k : post (nI x) (yru, ypl, ynu, yps, yfi, yac, yre, yme, yrp, yrq, yrl, yby, yle, ypr, ywa, ybp, ybq, ybo, zz_f ysc (x * 4) 4, yfn, yat, yhi, ylo, yen)) : ∀ d s, s + d = 4 →
    wY_open_84 post (nI x) yru ypl ynu yps yfi yac yre yme (d + 1) (nI s) yrp yrq yrl yby yle ypr ywa ybp ybq ybo (zz_f ysc (x * 4) s) yfn yat yhi ylo yen := by
  intro d
  induction d with
  | zero =>
    intro s hs
    have : s = 4 := by omega
    subst this
    exact br_t (nI_le (a := 4) (b := 4) (by omega) (by omega)) k
  | succ d ih =>
    intro s hs
    have e3 : nI x * 4 + nI s = nI (x * 4 + s) := by rw [show nI x * 4 = nI (x * 4) from pk_mul x 4, nI_add]
    have e5 : upd (zz_f ysc (x * 4) s) (nI x * 4 + nI s).toNatClampNeg 0 = zz_f ysc (x * 4) (s + 1) := by rw [e3, nI_clamp (by omega)]; rfl
    refine br_f (nI_ge (b := 4) (by omega) (by decide)) ⟨by rw [e3]; exact vp_in_nI (by omega) (by omega), nm_r e5 (nm_r (nI_1 s) (ih (s + 1) (by omega)))⟩
theorem x_open23 {post : Int32 → SX → Prop} {p q : Int32} {j : Nat} (hj : j ≤ 4) (hb : ∀ x, x < j → ¬ xop x = 0) (hz : j < 4 → xop j = 0) (k4 : j = 4 → post (-1) (xrc, xbc, xfc, xrn, xra, xfi, xfp, xgn, xac, xlr, xhm, xrp, xrA, xrB, xrC, xby, xhd, xst, xbg, xco, xen, xre, xld, xim, xic, xih, xif, xop, xbp, xbq, xsc, xna, xhe, xlo, xsk))
    (k : j < 4 → post (nI j) (xrc, xbc, xfc, xrn, xra, xfi, xfp, xgn, xac, xlr, xhm, xrp, xrA, xrB, xrC, xby, xhd, xst, xbg, xco, xen, xre, xld, xim, xic, xih, xif, upd xop j 1, upd xbp j p, upd xbq j q, zz_f xsc (j * 4) 4, xna, xhe, xlo, xsk)) : ∀ d x, x + d = j → wX_open_23 post p q xrc xbc xfc xrn xra xfi xfp xgn xac xlr xhm xrp xrA xrB xrC xby xhd xst xbg xco xen xre xld xim xic xih xif xop xbp xbq xsc xna xhe xlo xsk (d + 1) (nI x) := by
  intro d
  induction d with
  | zero =>
    intro x hx
    have : x = j := by omega
    subst this
    by_cases h4 : x = 4
    · exact br_t (by rw [h4]; exact nI_le (a := 4) (b := 4) (by omega) (by omega)) (k4 h4)
    · refine br_f (nI_ge (b := 4) (by omega) (by decide)) ⟨vp_in_nI (by omega) (by omega), ?_⟩
      refine br_t ?_ (x_prep (by omega) (k (by omega)))
      rw [nI_clamp (by omega)]
      exact hz (by omega)
  | succ d ih =>
    intro x hx
    refine br_f (nI_ge (b := 4) (by omega) (by decide)) ⟨vp_in_nI (by omega) (by omega), ?_⟩
    refine br_f ?_ (nm_r (nI_1 x) (ih (x + 1) (by omega)))
    rw [nI_clamp (by omega)]
    exact hb x (by omega)
theorem y_open53 {post : Int32 → SY → Prop} {p q : Int32} {j : Nat} (hj : j ≤ 4) (k4 : j = 4 → post (-1) (yru, ypl, ynu, yps, yfi, yac, yre, yme, yrp, yrq, yrl, yby, yle, ypr, ywa, ybp, ybq, ybo, ysc, yfn, yat, yhi, ylo, yen))
    (k : j < 4 → post (nI j) (yru, ypl, ynu, yps, yfi, yac, yre, yme, yrp, yrq, yrl, yby, yle, ypr, ywa, upd ybp j p, upd ybq j q, upd ybo j 1, zz_f ysc (j * 4) 4, yfn, yat, yhi, ylo, yen)) : wY_open_53 post p q (nI j) yru ypl ynu yps yfi yac yre yme yrp yrq yrl yby yle ypr ywa ybp ybq ybo ysc yfn yat yhi ylo yen := by
  unfold wY_open_53
  by_cases h4 : j = 4
  · exact br_t (by rw [h4]; rfl) (k4 h4)
  · rw [nI_clamp (by omega), ba_vb1]
    have e := vp_in_nI (n := j) (N := 4) (by omega) (by omega)
    exact br_f (ba_ne (b := 4) (by omega) (by omega) h4) ⟨e, nm_e ⟨e, nm_e ⟨e, nm_e ⟨5, y_open84 (by omega) (k (by omega)) 4 0 rfl⟩⟩⟩⟩
theorem y_open33 {post : Int32 → SY → Prop} {p q : Int32} {j : Nat} (hj : j ≤ 4) (hb : ∀ x, x < j → ¬ ybo x = 0) (hz : j < 4 → ybo j = 0) (k4 : j = 4 → post (-1) (yru, ypl, ynu, yps, yfi, yac, yre, yme, yrp, yrq, yrl, yby, yle, ypr, ywa, ybp, ybq, ybo, ysc, yfn, yat, yhi, ylo, yen))
    (k : j < 4 → post (nI j) (yru, ypl, ynu, yps, yfi, yac, yre, yme, yrp, yrq, yrl, yby, yle, ypr, ywa, upd ybp j p, upd ybq j q, upd ybo j 1, zz_f ysc (j * 4) 4, yfn, yat, yhi, ylo, yen)) : ∀ d x, x + d = j → wY_open_33 post p q yru ypl ynu yps yfi yac yre yme yrp yrq yrl yby yle ypr ywa ybp ybq ybo ysc yfn yat yhi ylo yen (d + 1) (nI x) := by
  intro d
  induction d with
  | zero =>
    intro x hx
    have : x = j := by omega
    subst this
    by_cases h4 : x = 4
    · exact br_t (by rw [h4]; exact nI_le (a := 4) (b := 4) (by omega) (by omega)) (y_open53 hj k4 k)
    · refine br_f (nI_ge (b := 4) (by omega) (by decide)) ⟨vp_in_nI (by omega) (by omega), ?_⟩
      refine br_t ?_ (y_open53 hj k4 k)
      rw [nI_clamp (by omega)]
      exact hz (by omega)
  | succ d ih =>
    intro x hx
    refine br_f (nI_ge (b := 4) (by omega) (by decide)) ⟨vp_in_nI (by omega) (by omega), ?_⟩
    refine br_f ?_ (nm_r (nI_1 x) (ih (x + 1) (by omega)))
    rw [nI_clamp (by omega)]
    exact hb x (by omega)
theorem fi_rst (N : Nat) (P : Nat → Prop) : ∃ j, j ≤ N ∧ (∀ x, x < j → ¬ P x) ∧ (j < N → P j) := by
  obtain ⟨j, h1, h2⟩ := pk_least (fun j => j = N ∨ P j) ⟨N, Or.inl rfl⟩
  refine ⟨j, ?_, fun x hx hp => h2 x hx (Or.inr hp), fun hj => ?_⟩
  · by_cases h : N < j
    · exact absurd (Or.inl rfl) (h2 N h)
    · omega
  · rcases h1 with h | h
    · omega
    · exact h
theorem i_vc_open {k : Nat} {u : SX} {v : SY} (I : i_Rel k u v) (hk : k + 5 ≤ 2560) (v1 : Int32) (v2 : Int32) : wpX_open (fun r u' => wpY_open (fun r' v' => r' = r ∧ i_Rel (k + 5) u' v') v v1 v2) u v1 v2 := by
  obtain ⟨r, n, pt, M, xfc, xrn, xra, xfi, xfp, xgn, xac, xlr, xhm, xrp, xrA, xrB, xrC, xby, xhd, xst, xbg, xco, xen, xre, xld, xim, xic, xih, xif, xop, xbp, xbq, xsc, xna, xhe, xlo, xsk, yps, yfi, yac, yrp, yrq, yrl, yle, ywa, yfn, yat, yhi, ylo, yen, rfl, rfl, h⟩ := I
  have J : i_Rel (k + 5) (nI r, nI n, xfc, xrn, xra, xfi, xfp, xgn, xac, xlr, xhm, xrp, xrA, xrB, xrC, xby, xhd, xst, xbg, xco, xen, xre, xld, xim, xic, xih, xif, xop, xbp, xbq, xsc, xna, xhe, xlo, xsk) (nI r, xfp, xgn, yps, yfi, yac, xlr, xhm, yrp, yrq, yrl, fun i => nI (M i), yle, xld, ywa, xbp, xbq, xop, xsc, yfn, yat, yhi, ylo, yen) := re_mk h
  unfold wpX_open
  dsimp only
  refine x_isPlugin (fun p hp e z => ?_) fun z => ?_
  · subst e
    have K : ∀ {P Q : Prop}, Q → _ := fun {P Q} q => y_plug (A := P) (B := Q) (v := nI p) (o := xld) (fun _ _ _ _ => q) fun z' => absurd ⟨p, hp, rfl, z⟩ z'
    refine br_f ba_10 ?_
    unfold wpY_open
    dsimp only
    rcases ba_c v2 (n := 2000) (by omega) with z1 | ⟨z1, z2, z3⟩ | ⟨z1, z2, z3, q, hq, rfl⟩
    · exact br_t z1 (K (br_t z1 ⟨rfl, J⟩))
    · exact br_f z1 (br_f z3 (K (br_f z1 (br_f z3 ⟨rfl, J⟩))))
    · obtain ⟨j, hj, hb, hz⟩ := fi_rst 4 (fun x => xop x = 0)
      refine br_f z1 (br_t z3 ⟨_, x_open23 hj hb hz (fun e => ?_) (fun e => ?_) j 0 (by omega)⟩)
      · exact K (br_f z1 (br_t z3 ⟨_, y_open33 hj hb hz (fun _ => ⟨rfl, J⟩) (fun e' => absurd e (by omega)) j 0 (by omega)⟩))
      · refine K (br_f z1 (br_t z3 ⟨_, y_open33 hj hb hz (fun e' => absurd e (by omega)) (fun _ => ⟨rfl, ?_⟩) j 0 (by omega)⟩))
        refine re_mk ⟨h.1, h.2.1, h.2.2.1, fun x hx hz => ?_⟩
        by_cases e' : x = j
        · subst e'
          exact ⟨p, q, hp, hq, pk_us, z, pk_us⟩
        · rw [pk_un e'] at hz
          rw [pk_un e', pk_un e']
          exact h.2.2.2 x hx hz
  · refine br_t rfl ?_
    unfold wpY_open
    dsimp only
    exact y_plug (fun j hj e z' => absurd ⟨j, hj, e, z'⟩ z) fun _ => ⟨rfl, J⟩
theorem x_unload12 {post : Int32 → SX → Prop} {p j : Nat} (hp : p < 3) (hj : j ≤ 4) (hb : ∀ x, x < j → ¬ (¬ xop x = 0 ∧ xbp x = nI p)) (hz : j < 4 → ¬ xop j = 0 ∧ xbp j = nI p) (k4 : j = 4 → post 1 (xrc, xbc, xfc, xrn, xra, xfi, xfp, xgn, xac, xlr, xhm, xrp, xrA, xrB, xrC, xby, xhd, xst, xbg, xco, xen, xre, upd xld p 0, xim, xic, xih, xif, xop, xbp, xbq, xsc, xna, xhe, xlo, xsk))
    (k : j < 4 → post 0 (xrc, xbc, xfc, xrn, xra, xfi, xfp, xgn, xac, xlr, xhm, xrp, xrA, xrB, xrC, xby, xhd, xst, xbg, xco, xen, xre, xld, xim, xic, xih, xif, xop, xbp, xbq, xsc, xna, xhe, xlo, xsk)) : ∀ d x, x + d = j → wX_unload_12 post (nI p) xrc xbc xfc xrn xra xfi xfp xgn xac xlr xhm xrp xrA xrB xrC xby xhd xst xbg xco xen xre xld xim xic xih xif xop xbp xbq xsc xna xhe xlo xsk (d + 1) (nI x) := by
  intro d
  induction d with
  | zero =>
    intro x hx
    have : x = j := by omega
    subst this
    by_cases h4 : x = 4
    · refine br_t (by rw [h4]; exact nI_le (a := 4) (b := 4) (by omega) (by omega)) ⟨vp_in_nI hp (by omega), nm_r ?_ (k4 h4)⟩
      rw [nI_clamp (by omega), ba_vb0]
    · have hz' := hz (by omega)
      refine br_f (nI_ge (b := 4) (by omega) (by decide)) ⟨vp_in_nI (by omega) (by omega), ?_⟩
      rw [nI_clamp (by omega)]
      exact br_f hz'.1 ⟨vp_in_nI (by omega) (by omega), br_t hz'.2 (k (by omega))⟩
  | succ d ih =>
    intro x hx
    refine br_f (nI_ge (b := 4) (by omega) (by decide)) ⟨vp_in_nI (by omega) (by omega), ?_⟩
    rw [nI_clamp (by omega)]
    refine br_c (fun _ => nm_r (nI_1 x) (ih (x + 1) (by omega))) fun z => ⟨vp_in_nI (by omega) (by omega), br_f (fun z' => hb x (by omega) ⟨z, z'⟩) (nm_r (nI_1 x) (ih (x + 1) (by omega)))⟩
theorem y_unload22 {post : Int32 → SY → Prop} {p j : Nat} (hp : p < 3) (hj : j ≤ 4) (hb : ∀ x, x < j → ¬ (¬ ybo x = 0 ∧ ybp x = nI p)) (hz : j < 4 → ¬ ybo j = 0 ∧ ybp j = nI p) (k4 : j = 4 → post 1 (yru, ypl, ynu, yps, yfi, yac, yre, yme, yrp, yrq, yrl, yby, yle, upd ypr p 0, ywa, ybp, ybq, ybo, ysc, yfn, yat, yhi, ylo, yen))
    (k : j < 4 → post 0 (yru, ypl, ynu, yps, yfi, yac, yre, yme, yrp, yrq, yrl, yby, yle, ypr, ywa, ybp, ybq, ybo, ysc, yfn, yat, yhi, ylo, yen)) : ∀ d x, x + d = j → wY_unload_22 post (nI p) yru ypl ynu yps yfi yac yre yme yrp yrq yrl yby yle ypr ywa ybp ybq ybo ysc yfn yat yhi ylo yen (d + 1) (nI x) := by
  intro d
  induction d with
  | zero =>
    intro x hx
    have : x = j := by omega
    subst this
    by_cases h4 : x = 4
    · refine br_t (by rw [h4]; exact nI_le (a := 4) (b := 4) (by omega) (by omega)) ⟨vp_in_nI (by omega) (by omega), nm_r ?_ (k4 h4)⟩
      rw [nI_clamp (by omega), ba_vb0]
    · have hz' := hz (by omega)
      refine br_f (nI_ge (b := 4) (by omega) (by decide)) ⟨vp_in_nI (by omega) (by omega), ?_⟩
      rw [nI_clamp (by omega)]
      exact br_f hz'.1 ⟨vp_in_nI (by omega) (by omega), br_t hz'.2 (k (by omega))⟩
  | succ d ih =>
    intro x hx
    refine br_f (nI_ge (b := 4) (by omega) (by decide)) ⟨vp_in_nI (by omega) (by omega), ?_⟩
    rw [nI_clamp (by omega)]
    refine br_c (fun _ => nm_r (nI_1 x) (ih (x + 1) (by omega))) fun z => ⟨vp_in_nI (by omega) (by omega), br_f (fun z' => hb x (by omega) ⟨z, z'⟩) (nm_r (nI_1 x) (ih (x + 1) (by omega)))⟩
theorem i_vc_unload {k : Nat} {u : SX} {v : SY} (I : i_Rel k u v) (hk : k + 5 ≤ 2560) (v1 : Int32) : wpX_unload (fun r u' => wpY_unload (fun r' v' => r' = r ∧ i_Rel (k + 5) u' v') v v1) u v1 := by
  obtain ⟨r, n, pt, M, xfc, xrn, xra, xfi, xfp, xgn, xac, xlr, xhm, xrp, xrA, xrB, xrC, xby, xhd, xst, xbg, xco, xen, xre, xld, xim, xic, xih, xif, xop, xbp, xbq, xsc, xna, xhe, xlo, xsk, yps, yfi, yac, yrp, yrq, yrl, yle, ywa, yfn, yat, yhi, ylo, yen, rfl, rfl, h⟩ := I
  have J : i_Rel (k + 5) (nI r, nI n, xfc, xrn, xra, xfi, xfp, xgn, xac, xlr, xhm, xrp, xrA, xrB, xrC, xby, xhd, xst, xbg, xco, xen, xre, xld, xim, xic, xih, xif, xop, xbp, xbq, xsc, xna, xhe, xlo, xsk) (nI r, xfp, xgn, yps, yfi, yac, xlr, xhm, yrp, yrq, yrl, fun i => nI (M i), yle, xld, ywa, xbp, xbq, xop, xsc, yfn, yat, yhi, ylo, yen) := re_mk h
  unfold wpX_unload
  dsimp only
  refine x_isPlugin (fun p hp e z => ?_) fun z => ?_
  · subst e
    obtain ⟨j, hj, hb, hz⟩ := fi_rst 4 (fun x => ¬ xop x = 0 ∧ xbp x = nI p)
    refine br_f ba_10 ⟨_, x_unload12 hp hj hb hz (fun e => ?_) (fun e => ?_) j 0 (by omega)⟩
    · unfold wpY_unload
      dsimp only
      refine y_plug (fun _ _ _ _ => ⟨_, y_unload22 hp hj hb hz (fun _ => ⟨rfl, ?_⟩) (fun e' => absurd e (by omega)) j 0 (by omega)⟩) fun z' => absurd ⟨p, hp, rfl, z⟩ z'
      subst e
      refine re_mk ⟨h.1, h.2.1, fun p' hp' z' => ?_, fun x hx z' => ?_⟩
      · by_cases e : p' = p
        · subst e; rw [pk_us] at z'; exact absurd rfl z'
        · rw [pk_un e] at z'; exact h.2.2.1 p' hp' z'
      · obtain ⟨p', q, h1, h2, h3, h4, h5⟩ := h.2.2.2 x hx z'
        refine ⟨p', q, h1, h2, h3, ?_, h5⟩
        rw [pk_un]
        · exact h4
        · intro e
          subst e
          exact hb x hx ⟨z', h3⟩
    · unfold wpY_unload
      dsimp only
      exact y_plug (fun _ _ _ _ => ⟨_, y_unload22 hp hj hb hz (fun e' => absurd e (by omega)) (fun _ => ⟨rfl, J⟩) j 0 (by omega)⟩) fun z' => absurd ⟨p, hp, rfl, z⟩ z'
  · refine br_t rfl ?_
    unfold wpY_unload
    dsimp only
    exact y_plug (fun j hj e z' => absurd ⟨j, hj, e, z'⟩ z) fun _ => ⟨rfl, J⟩
end A5
