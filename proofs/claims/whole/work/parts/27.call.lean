section D9
variable {r n : Nat} {pt M b : Nat → Nat} {xrc xbc xfc xrn xra xfi xfp xgn xac xlr : Int32} {xhm : Int64} {xrp xrA xrB xrC xby xhd xst xbg xco xen xre xld xim xic xih xif xop xbp xbq xsc xna xhe xlo xsk : Nat → Int32} {yru ypl ynu yps yfi yac yre : Int32} {yme : Int64} {yrp yrq yrl yby yle ypr ywa ybp ybq ybo ysc yfn yat yhi ylo yen : Nat → Int32}
theorem rn_ph {b : Nat → Nat} {f a q m : Nat} (hI : pl_IS b f a) (h : q + pl_T b f a ≤ m) (hc : pl_C b f a ≤ q) : q - pl_C b f a + pl_T b f (a + pl_sz (b a)) + 1 ≤ m := by
  have w := pl_wt_pos (b a)
  by_cases hL : pl_L b f a
  · rw [pl_C_L hL] at hc ⊢
    omega
  · rw [pl_C_n hL] at hc ⊢
    rw [pl_T_n hI.1 hL] at h
    omega
theorem rn_main {p x : Nat} {q0 : Nat → Int32} (hV : rn_V M p x n xim xic xih xbp) : ∀ m, rn_H x p q0 M m xrc xbc xfc xrn xra xfi xfp xgn xac xlr xhm xrp xrA xrB xrC xby xhd xst xbg xco xen xre xld xim xic xih xif xop xbp xbq xsc xna xhe xlo xsk yru ypl ynu yps yfi yac yre yme yrp yrq yrl yby yle ypr ywa ybp ybq ybo ysc yfn yat yhi ylo yen := by
  intro m
  induction m with
  | zero =>
    intro t f a hh q st xhm xbq xsc xna xhe xlo xsk yfn yat yhi ylo yen ht hst hW hA hR hqs hq hq2 hphi
    by_cases hc : q < pl_C (re_b M p) f a
    · exact rn_qu hV ht hA hR.1 hq hq2 (by omega) hc hqs
    · have := rn_ph hR.1 hphi (by omega)
      omega
  | succ m ih =>
    intro t f a hh q st xhm xbq xsc xna xhe xlo xsk yfn yat yhi ylo yen ht hst hW hA hR hqs hq hq2 hphi
    by_cases hc : q < pl_C (re_b M p) f a
    · exact rn_qu hV ht hA hR.1 hq hq2 (by omega) hc hqs
    · have hcq : pl_C (re_b M p) f a ≤ q := by omega
      have hph : q - pl_C (re_b M p) f a + pl_T (re_b M p) f (a + pl_sz (re_b M p a)) ≤ m := by
        have := rn_ph hR.1 hphi hcq
        omega
      have bad := (hV.2.2.2.1.2.2 f hA.1).1 a hR.1
      have c16 : re_b M p a ≤ 16 := by unfold pl_bad at bad; omega
      rcases c17 c16 with e | e | e | e | e | e | e | e | e | e | e | e | e | e | e | e | e
      · exact rn_o0 (xac := xac) (xlr := xlr) (yac := yac) (yre := yre) (yme := yme) (yby := yby) (ybq := ybq) (ysc := ysc) hV ih ht hst hW hA hR hqs hq hq2 hcq hph e
      · exact rn_o1 (xac := xac) (xlr := xlr) (yac := yac) (yre := yre) (yme := yme) (yby := yby) (ybq := ybq) (ysc := ysc) hV ih ht hst hW hA hR hqs hq hq2 hcq hph e
      · exact rn_o2 (xac := xac) (xlr := xlr) (yac := yac) (yre := yre) (yme := yme) (yby := yby) (ybq := ybq) (ysc := ysc) hV ih ht hst hW hA hR hqs hq hq2 hcq hph e
      · exact rn_o3 (xac := xac) (xlr := xlr) (yac := yac) (yre := yre) (yme := yme) (yby := yby) (ybq := ybq) (ysc := ysc) hV ih ht hst hW hA hR hqs hq hq2 hcq hph e
      · exact rn_o4 (xac := xac) (xlr := xlr) (yac := yac) (yre := yre) (yme := yme) (yby := yby) (ybq := ybq) (ysc := ysc) hV ih ht hst hW hA hR hqs hq hq2 hcq hph e
      · exact rn_o5 (xac := xac) (xlr := xlr) (yac := yac) (yre := yre) (yme := yme) (yby := yby) (ybq := ybq) (ysc := ysc) hV ih ht hst hW hA hR hqs hq hq2 hcq hph e
      · exact rn_o6 (xac := xac) (xlr := xlr) (yac := yac) (yre := yre) (yme := yme) (yby := yby) (ybq := ybq) (ysc := ysc) hV ih ht hst hW hA hR hqs hq hq2 hcq hph e
      · exact rn_o7 (xac := xac) (xlr := xlr) (yac := yac) (yre := yre) (yme := yme) (yby := yby) (ybq := ybq) (ysc := ysc) hV ih ht hst hW hA hR hqs hq hq2 hcq hph e
      · exact rn_o8 (xac := xac) (xlr := xlr) (yac := yac) (yre := yre) (yme := yme) (yby := yby) (ybq := ybq) (ysc := ysc) hV ih ht hst hW hA hR hqs hq hq2 hcq hph e
      · exact rn_o9 (xac := xac) (xlr := xlr) (yac := yac) (yre := yre) (yme := yme) (yby := yby) (ybq := ybq) (ysc := ysc) hV ih ht hst hW hA hR hqs hq hq2 hcq hph e
      · exact rn_o10 (xac := xac) (xlr := xlr) (yac := yac) (yre := yre) (yme := yme) (yby := yby) (ybq := ybq) (ysc := ysc) hV ih ht hst hW hA hR hqs hq hq2 hcq hph e
      · exact rn_o11 (xac := xac) (xlr := xlr) (yac := yac) (yre := yre) (yme := yme) (yby := yby) (ybq := ybq) (ysc := ysc) hV ih ht hst hW hA hR hqs hq hq2 hcq hph e
      · exact rn_o12 (xac := xac) (xlr := xlr) (yac := yac) (yre := yre) (yme := yme) (yby := yby) (ybq := ybq) (ysc := ysc) hV ih ht hst hW hA hR hqs hq hq2 hcq hph e
      · exact rn_o13 (xac := xac) (xlr := xlr) (yac := yac) (yre := yre) (yme := yme) (yby := yby) (ybq := ybq) (ysc := ysc) hV ih ht hst hW hA hR hqs hq hq2 hcq hph e
      · exact rn_o14 (xac := xac) (xlr := xlr) (yac := yac) (yre := yre) (yme := yme) (yby := yby) (ybq := ybq) (ysc := ysc) hV ih ht hst hW hA hR hqs hq hq2 hcq hph e
      · exact rn_o15 (xac := xac) (xlr := xlr) (yac := yac) (yre := yre) (yme := yme) (yby := yby) (ybq := ybq) (ysc := ysc) hV ih ht hst hW hA hR hqs hq hq2 hcq hph e
      · exact rn_o16 (xac := xac) (xlr := xlr) (yac := yac) (yre := yre) (yme := yme) (yby := yby) (ybq := ybq) (ysc := ysc) hV ih ht hst hW hA hR hqs hq hq2 hcq hph e
def ca_0 (np : Nat) (a b : Int32) (z : Nat → Int32) : Nat → Int32 := if np = 0 then z else if np = 1 then upd z 0 a else upd (upd z 0 a) 1 b
theorem ca_0e {np : Nat} {a b : Int32} {z z' : Nat → Int32} (h : ∀ i, i < 5 → z i = z' i) : ∀ i, i < 5 → ca_0 np a b z i = ca_0 np a b z' i := by
  intro i hi
  unfold ca_0
  split
  · exact h i hi
  · split
    · by_cases e : i = 0
      · subst e; rw [pk_us, pk_us]
      · rw [pk_un e, pk_un e]; exact h i hi
    · by_cases e1 : i = 1
      · subst e1; rw [pk_us, pk_us]
      · rw [pk_un e1, pk_un e1]
        by_cases e : i = 0
        · subst e; rw [pk_us, pk_us]
        · rw [pk_un e, pk_un e]; exact h i hi
theorem x_callE {post : Int32 → SX → Prop} {x p f np d nf : Nat} {v3 v4 : Int32} (hx : x < 4) (hop : ¬ xop x = 0) (hp : p < 3) (hbp : xbp x = nI p) (hxif : xif p = nI nf) (hf : f < nf) (hnf : nf ≤ 4) (hr : r ≤ 12) (hR : ∀ i, i < r → pt i ≤ 3 ∧ (xrp i) >>> ((1 : Int32) &&& 31) = nI (pt i)) (h4 : b 1 ≤ 4) (hb : ∀ i, i < 120 → xim (p * 120 + i) = nI (b i))
    (hih : xih (p * 4 + f) = nI (p * 120 + d)) (hdl : d < 120) (hnp : b d = np) (hn2 : np ≤ 2)
    (k4 : (∃ i, de_F pt xrp xrA xrB xrC r b i) → post 4 (nI r, xbc, xfc, xrn, xra, xfi, xfp, xgn, xac, xlr, xhm, xrp, xrA, xrB, xrC, xby, xhd, xst, xbg, xco, xen, xre, xld, xim, xic, xih, xif, xop, xbp, xbq, xsc, xna, xhe, xlo, xsk))
    (k : (∀ i, i < b 1 → ¬ de_A pt xrp xrA xrB xrC r b i = 0) → wpX_run post (nI r, xbc, xfc, xrn, xra, xfi, xfp, xgn, nI (0 + 1), 0, xhm, xrp, xrA, xrB, xrC, xby, xhd, xst, xbg, xco, xen, xre, xld, xim, xic, xih, xif, xop, xbp, xbq, xsc, upd xna 0 (nI (p * 120 + d + 3)), upd xhe 0 0, ca_0 np v3 v4 (zz_f xlo (0 * 5) 5), xsk) (nI x)) : wpX_call post (nI r, xbc, xfc, xrn, xra, xfi, xfp, xgn, xac, xlr, xhm, xrp, xrA, xrB, xrC, xby, xhd, xst, xbg, xco, xen, xre, xld, xim, xic, xih, xif, xop, xbp, xbq, xsc, xna, xhe, xlo, xsk) (nI x) (nI f) v3 v4 := by
  have Vx : vp_in (nI x) 4 := vp_in_nI hx (by omega)
  have Vd : vp_in (nI (p * 120 + d)) 360 := vp_in_nI (by omega) (by omega)
  have hb' : ∀ i, b i = b i := fun _ => rfl
  unfold wpX_call
  dsimp only
  refine x_isBox (fun j hj e z => br_f ba_10 ?_) fun z => absurd ⟨x, hx, rfl, hop⟩ z
  rw [nI_clamp (show x < 2 ^ 31 by omega), hbp]
  refine ⟨Vx, nm_e (br_f (nI_pos (by omega)) ⟨vp_in_nI hp (by omega), ?_⟩)⟩
  rw [nI_clamp (show p < 2 ^ 31 by omega), hxif]
  refine br_t (nI_lt hf (by omega)) ?_
  rw [show nI p * 120 = nI (p * 120) from pk_mul p 120]
  refine x_denI (b := b) hp hr hR h4 hb (fun i hi => ?_) fun hD => br_t rfl ?_
  · have := hi.1
    exact br_f (ba_m1ne (by omega)) (k4 ⟨i, hi⟩)
  rw [show nI p * 4 + nI f = nI (p * 4 + f) by rw [show nI p * 4 = nI (p * 4) from pk_mul p 4, nI_add], nI_clamp (by omega), hih]
  refine ⟨vp_in_nI (by omega) (by omega), nm_e ?_⟩
  refine x_clear (q := 0) (by omega) ⟨Vd, ?_⟩
  dsimp only
  rw [nI_clamp (show p * 120 + d < 2 ^ 31 by omega), hb d hdl, hnp]
  have K := k hD
  have A : ∀ xlo : Nat → Int32, wpX_run post (nI r, xbc, xfc, xrn, xra, xfi, xfp, xgn, nI (0 + 1), 0, xhm, xrp, xrA, xrB, xrC, xby, xhd, xst, xbg, xco, xen, xre, xld, xim, xic, xih, xif, xop, xbp, xbq, xsc, upd xna 0 (nI (p * 120 + d + 3)), upd xhe 0 0, xlo, xsk) (nI x) → wX_call_117 post (nI x) (nI (p * 120 + d)) (nI r) xbc xfc xrn xra xfi xfp xgn (nI 0) 0 xhm xrp xrA xrB xrC xby xhd xst xbg xco xen xre xld xim xic xih xif xop xbp xbq xsc xna xhe xlo xsk := by
    intro xlo q
    exact x_act (q := 0) (by omega) q
  have B : ∀ xlo : Nat → Int32, (np ≤ 1 → wpX_run post (nI r, xbc, xfc, xrn, xra, xfi, xfp, xgn, nI (0 + 1), 0, xhm, xrp, xrA, xrB, xrC, xby, xhd, xst, xbg, xco, xen, xre, xld, xim, xic, xih, xif, xop, xbp, xbq, xsc, upd xna 0 (nI (p * 120 + d + 3)), upd xhe 0 0, xlo, xsk) (nI x)) → (1 < np → wpX_run post (nI r, xbc, xfc, xrn, xra, xfi, xfp, xgn, nI (0 + 1), 0, xhm, xrp, xrA, xrB, xrC, xby, xhd, xst, xbg, xco, xen, xre, xld, xim, xic, xih, xif, xop, xbp, xbq, xsc, upd xna 0 (nI (p * 120 + d + 3)), upd xhe 0 0, upd xlo 1 v4, xsk) (nI x)) → wX_call_98 post (nI x) v4 (nI (p * 120 + d)) (nI r) xbc xfc xrn xra xfi xfp xgn (nI 0) 0 xhm xrp xrA xrB xrC xby xhd xst xbg xco xen xre xld xim xic xih xif xop xbp xbq xsc xna xhe xlo xsk := by
    intro xlo q1 q2
    unfold wX_call_98
    rw [nI_clamp (show p * 120 + d < 2 ^ 31 by omega), hb d hdl, hnp]
    exact ⟨Vd, pk_le np 1 (fun h => A _ (q1 h)) fun h => nm_e (A _ (q2 h))⟩
  refine pk_le np 0 (fun h => B _ (fun _ => ?_) fun h' => absurd h' (by omega)) fun h => nm_e (B _ (fun h' => ?_) fun h' => ?_)
  · rw [show ca_0 np v3 v4 (zz_f xlo (0 * 5) 5) = zz_f xlo (0 * 5) 5 by unfold ca_0; rw [if_pos (by omega)]] at K
    exact K
  · rw [show ca_0 np v3 v4 (zz_f xlo (0 * 5) 5) = upd (zz_f xlo (0 * 5) 5) 0 v3 by unfold ca_0; rw [if_neg (by omega), if_pos (by omega)]] at K
    exact K
  · rw [show ca_0 np v3 v4 (zz_f xlo (0 * 5) 5) = upd (upd (zz_f xlo (0 * 5) 5) 0 v3) 1 v4 by unfold ca_0; rw [if_neg (by omega), if_neg (by omega)]] at K
    exact K
theorem y_callE {post : Int32 → SY → Prop} {x p f np : Nat} {v3 v4 : Int32} (hx : x < 4) (hop : ¬ ybo x = 0) (hp : p < 3) (hbp : ybp x = nI p) (hv : ∀ i, M i < 256) (hn : n ≤ 120) (hF : pl_Fmt (re_b M p) n) (hf : f < pl_nf (re_b M p)) (hR : re_RU r pt xrp xrA xrB xrC yrp yrq yrl) (hnp : re_b M p (pl_hd (re_b M p) f) = np) (hn2 : np ≤ 2)
    (k4 : (∃ i, de_F pt xrp xrA xrB xrC r (re_b M p) i) → post 4 (nI r, ypl, ynu, yps, yfi, yac, yre, yme, yrp, yrq, yrl, fun i => nI (M i), yle, ypr, ywa, ybp, ybq, ybo, ysc, yfn, yat, yhi, ylo, yen))
    (k : (∀ i, i < re_b M p 1 → ¬ de_A pt xrp xrA xrB xrC r (re_b M p) i = 0) → ∃ m, wY_call_115 post (nI x) (nI p) m (-1) 0 (nI r) ypl ynu yps yfi (nI (0 + 1)) 0 yme yrp yrq yrl (fun i => nI (M i)) yle ypr ywa ybp ybq ybo ysc (upd yfn 0 (nI f)) (upd yat 0 (nI (p * 120 + pl_s (re_b M p) f))) (upd yhi 0 0) (ca_0 np v3 v4 (zz_f ylo (0 * 5) 5)) yen) : wpY_call post (nI r, ypl, ynu, yps, yfi, yac, yre, yme, yrp, yrq, yrl, fun i => nI (M i), yle, ypr, ywa, ybp, ybq, ybo, ysc, yfn, yat, yhi, ylo, yen) (nI x) (nI f) v3 v4 := by
  have Vx : vp_in (nI x) 4 := vp_in_nI hx (by omega)
  have h4 := hF.2.2.2.1
  have he := pl_ef hF hf
  have hh := pl_hf hF hf
  have hi : ∀ i, i < f → pl_hd (re_b M p) i + 2 < 120 := by
    intro i h
    have := pl_hd_le (re_b M p) i f (by omega)
    omega
  have Vd : vp_in (nI (p * 120 + pl_hd (re_b M p) f)) 480 := vp_in_nI (by omega) (by omega)
  unfold wpY_call
  dsimp only
  refine y_isOpen (fun j hj e z => br_f ba_10 (br_f (nI_pos (by omega)) ⟨Vx, ?_⟩)) fun z => absurd ⟨x, hx, rfl, hop⟩ z
  rw [nI_clamp (show x < 2 ^ 31 by omega), hbp]
  refine y_functions (by omega) hF.1 (br_t (nI_lt hf (by omega)) ⟨Vx, nm_e ?_⟩)
  refine y_denied (by omega) hR hF.1 hF.2.1 (fun i hi => br_f (nI_pos (by have := hi.1; have := hF.1; omega)) (k4 ⟨i, hi⟩)) fun hD => br_t ba_m1lt ?_
  refine y_enter (q := 0) (by omega) (by omega) hn hF hf ?_
  refine y_head (by omega) (by omega) hF.1 hi ⟨Vd, ?_⟩
  have K := k hD
  have B : ∀ ylo : Nat → Int32, (np ≤ 1 → ∃ m, wY_call_115 post (nI x) (nI p) m (-1) 0 (nI r) ypl ynu yps yfi (nI (0 + 1)) 0 yme yrp yrq yrl (fun i => nI (M i)) yle ypr ywa ybp ybq ybo ysc (upd yfn 0 (nI f)) (upd yat 0 (nI (p * 120 + pl_s (re_b M p) f))) (upd yhi 0 0) ylo yen) → (1 < np → ∃ m, wY_call_115 post (nI x) (nI p) m (-1) 0 (nI r) ypl ynu yps yfi (nI (0 + 1)) 0 yme yrp yrq yrl (fun i => nI (M i)) yle ypr ywa ybp ybq ybo ysc (upd yfn 0 (nI f)) (upd yat 0 (nI (p * 120 + pl_s (re_b M p) f))) (upd yhi 0 0) (upd ylo 1 v4) yen) →
      wY_call_90 post (nI x) v4 (nI p) (nI (p * 120 + pl_hd (re_b M p) f)) (nI r) ypl ynu yps yfi (nI (0 + 1)) 0 yme yrp yrq yrl (fun i => nI (M i)) yle ypr ywa ybp ybq ybo ysc (upd yfn 0 (nI f)) (upd yat 0 (nI (p * 120 + pl_s (re_b M p) f))) (upd yhi 0 0) ylo yen := by
    intro ylo q1 q2
    unfold wY_call_90
    dsimp only
    rw [y_rd (by omega) (by omega), hnp]
    exact ⟨Vd, pk_le np 1 q1 fun h => nm_e (q2 h)⟩
  dsimp only
  rw [y_rd (by omega) (by omega), hnp]
  refine pk_le np 0 (fun h => B _ (fun _ => ?_) fun h' => absurd h' (by omega)) fun h => nm_e (B _ (fun h' => ?_) fun h' => ?_)
  · rw [show ca_0 np v3 v4 (zz_f ylo (0 * 5) 5) = zz_f ylo (0 * 5) 5 by unfold ca_0; rw [if_pos (by omega)]] at K
    exact K
  · rw [show ca_0 np v3 v4 (zz_f ylo (0 * 5) 5) = upd (zz_f ylo (0 * 5) 5) 0 v3 by unfold ca_0; rw [if_neg (by omega), if_pos (by omega)]] at K
    exact K
  · rw [show ca_0 np v3 v4 (zz_f ylo (0 * 5) 5) = upd (upd (zz_f ylo (0 * 5) 5) 0 v3) 1 v4 by unfold ca_0; rw [if_neg (by omega), if_neg (by omega)]] at K
    exact K
end D9
section E1
variable {r n : Nat} {pt M b : Nat → Nat} {xrc xbc xfc xrn xra xfi xfp xgn xac xlr : Int32} {xhm : Int64} {xrp xrA xrB xrC xby xhd xst xbg xco xen xre xld xim xic xih xif xop xbp xbq xsc xna xhe xlo xsk : Nat → Int32} {yru ypl ynu yps yfi yac yre : Int32} {yme : Int64} {yrp yrq yrl yby yle ypr ywa ybp ybq ybo ysc yfn yat yhi ylo yen : Nat → Int32}
theorem i_vc_call {k : Nat} {u : SX} {v : SY} (I : i_Rel k u v) (hk : k + 5 ≤ 2560) (v1 : Int32) (v2 : Int32) (v3 : Int32) (v4 : Int32) : wpX_call (fun r u' => wpY_call (fun r' v' => r' = r ∧ i_Rel (k + 5) u' v') v v1 v2 v3 v4) u v1 v2 v3 v4 := by
  obtain ⟨r, n, pt, M, xfc, xrn, xra, xfi, xfp, xgn, xac, xlr, xhm, xrp, xrA, xrB, xrC, xby, xhd, xst, xbg, xco, xen, xre, xld, xim, xic, xih, xif, xop, xbp, xbq, xsc, xna, xhe, xlo, xsk, yps, yfi, yac, yrp, yrq, yrl, yle, ywa, yfn, yat, yhi, ylo, yen, rfl, rfl, h⟩ := I
  have J : i_Rel (k + 5) (nI r, nI n, xfc, xrn, xra, xfi, xfp, xgn, xac, xlr, xhm, xrp, xrA, xrB, xrC, xby, xhd, xst, xbg, xco, xen, xre, xld, xim, xic, xih, xif, xop, xbp, xbq, xsc, xna, xhe, xlo, xsk) (nI r, xfp, xgn, yps, yfi, yac, xlr, xhm, yrp, yrq, yrl, fun i => nI (M i), yle, xld, ywa, xbp, xbq, xop, xsc, yfn, yat, yhi, ylo, yen) := re_mk h
  obtain ⟨hR, ⟨hn, hl, hM, him, hb⟩, hP, hX⟩ := h
  by_cases ho : bo_ok 4 xop v1
  case neg =>
    unfold wpX_call
    dsimp only
    refine x_isBox (fun j hj e z => absurd ⟨j, hj, e, z⟩ ho) fun _ => br_t rfl ?_
    unfold wpY_call
    dsimp only
    exact y_isOpen (fun j hj e z => absurd ⟨j, hj, e, z⟩ ho) fun _ => br_t rfl ⟨rfl, J⟩
  obtain ⟨x, hx, rfl, hop⟩ := ho
  obtain ⟨p, q, hp, hq2, hbp, hld, hbq⟩ := hX x hx hop
  obtain ⟨⟨N, hW⟩, hif, hih⟩ := hP p hp hld
  have hWF := hW
  obtain ⟨hN, hF, hff⟩ := hWF
  have h4 := hF.2.2.2.1
  have Vx : vp_in (nI x) 4 := vp_in_nI hx (by omega)
  by_cases hf : ∃ f, f < pl_nf (re_b M p) ∧ v2 = nI f
  case neg =>
    -- no function of its plugin
    have c1 : ¬ v2 < 0 → ¬ v2 < nI (pl_nf (re_b M p)) := by
      intro z1 z2
      obtain ⟨f, hf1, rfl⟩ := nI_of z1
      exact hf ⟨f, (nI_ltI hf1 (by omega)).mp z2, rfl⟩
    unfold wpX_call
    dsimp only
    refine x_isBox (fun j hj e z => br_f ba_10 ?_) fun z => absurd ⟨x, hx, rfl, hop⟩ z
    rw [nI_clamp (show x < 2 ^ 31 by omega), hbp]
    have Y5 : wpY_call (fun r' v' => r' = 5 ∧ i_Rel (k + 5) (nI r, nI n, xfc, xrn, xra, xfi, xfp, xgn, xac, xlr, xhm, xrp, xrA, xrB, xrC, xby, xhd, xst, xbg, xco, xen, xre, xld, xim, xic, xih, xif, xop, xbp, xbq, xsc, xna, xhe, xlo, xsk) v') (nI r, xfp, xgn, yps, yfi, yac, xlr, xhm, yrp, yrq, yrl, fun i => nI (M i), yle, xld, ywa, xbp, xbq, xop, xsc, yfn, yat, yhi, ylo, yen) (nI x) v2 v3 v4 := by
      unfold wpY_call
      dsimp only
      refine y_isOpen (fun j hj e z => br_f ba_10 (br_c (fun _ => ⟨rfl, J⟩) fun z1 => ⟨Vx, ?_⟩)) fun z => absurd ⟨x, hx, rfl, hop⟩ z
      rw [nI_clamp (show x < 2 ^ 31 by omega), hbp]
      exact y_functions (by omega) hF.1 (br_f (c1 z1) ⟨rfl, J⟩)
    refine ⟨Vx, nm_e (br_c (fun _ => Y5) fun z1 => ⟨vp_in_nI hp (by omega), ?_⟩)⟩
    rw [nI_clamp (show p < 2 ^ 31 by omega), hif]
    exact br_f (c1 z1) Y5
  obtain ⟨f, hf, rfl⟩ := hf
  have he := pl_ef hF hf
  have hh := pl_hf hF hf
  have np2 : re_b M p (pl_hd (re_b M p) f) ≤ 2 := (hF.2.2.2.2.1 f hf).1
  have him' : ∀ i, i < 120 → xim (p * 120 + i) = nI (re_b M p i) := fun i hi => by rw [him _ (by omega), re_bi hi]
  have hRx : ∀ i, i < r → pt i ≤ 3 ∧ (xrp i) >>> ((1 : Int32) &&& 31) = nI (pt i) := fun i hi => ⟨(hR.2 i hi).1, (hR.2 i hi).2.1⟩
  refine x_callE (b := re_b M p) (pt := pt) hx hop hp hbp hif hf h4 hR.1 hRx hF.1 him' (hih f hf).1 (by omega) rfl np2 (fun hD => ?_) fun hD => ?_
  · refine y_callE (xrp := xrp) (xrA := xrA) (xrB := xrB) (xrC := xrC) hx hop hp hbp hM hN hF hf hR rfl np2 (fun _ => ⟨rfl, J⟩) fun z => ?_
    obtain ⟨i, hi⟩ := hD
    exact absurd hi.2.1 (z i hi.1)
  have hV : rn_V M p x N xim xic xih xbp := ⟨hp, hx, hM, hW, him', hbp, fun f hf => hih f hf⟩
  have hLs : pl_L (re_b M p) f (pl_s (re_b M p) f) := Or.inl rfl
  obtain ⟨w, rs, hm, bq, sc, ac1, na1, he1, lo1, sk1, yc1, fn1, at1, hi1, yl1, en1, e1, ⟨q', e2, e2'⟩, e3, e4⟩ :=
    rn_main (q0 := xbq) (xrc := nI r) (xbc := nI n) (xfc := xfc) (xrn := xrn) (xra := xra) (xfi := xfi) (xfp := xfp) (xgn := xgn) (xac := xac) (xlr := xlr) (xhm := xhm) (xrp := xrp) (xrA := xrA) (xrB := xrB) (xrC := xrC) (xby := xby) (xhd := xhd) (xst := xst) (xbg := xbg) (xco := xco) (xen := xen) (xre := xre) (xld := xld) (xif := xif) (xop := xop) (xbq := xbq) (xsc := xsc) (xna := xna) (xhe := xhe) (xlo := xlo) (xsk := xsk)
      (yru := nI r) (ypl := xfp) (ynu := xgn) (yps := yps) (yfi := yfi) (yac := yac) (yre := xlr) (yme := xhm) (yrp := yrp) (yrq := yrq) (yrl := yrl) (yby := fun i => nI (M i)) (yle := yle) (ypr := xld) (ywa := ywa) (ybp := xbp) (ybq := xbq) (ybo := xop) (ysc := xsc) (yfn := yfn) (yat := yat) (yhi := yhi) (ylo := ylo) (yen := yen)
      hV 2000 0 f (pl_s (re_b M p) f) 0 q 0 xhm xbq xsc (upd xna 0 (nI (p * 120 + pl_hd (re_b M p) f + 3))) (upd xhe 0 0) (ca_0 (re_b M p (pl_hd (re_b M p) f)) v3 v4 (zz_f xlo (0 * 5) 5)) xsk (upd yfn 0 (nI f)) (upd yat 0 (nI (p * 120 + pl_s (re_b M p) f))) (upd yhi 0 0) (ca_0 (re_b M p (pl_hd (re_b M p) f)) v3 v4 (zz_f ylo (0 * 5) 5)) yen
      (by omega) (by omega) (fun l hl => absurd hl (by omega)) ⟨hf, pk_us, by rw [pk_us]; exact congrArg nI (by unfold pl_s; omega), pk_us, pk_us, pk_us, by omega, fun j hj => absurd hj (by omega), fun i hi => by
        rw [Nat.zero_mul, Nat.zero_add]
        refine ca_0e (fun i hi => ?_) i hi
        rw [show i = 0 + i by omega, zz_in 5 hi, zz_in 5 hi]⟩ (rr_0 hF hf) (fun y _ => rfl) hbq hq2 (by rw [pl_T_L hLs]; omega)
  refine ⟨2001, e3 _ ?_⟩
  refine y_callE (xrp := xrp) (xrA := xrA) (xrB := xrB) (xrC := xrC) hx hop hp hbp hM hN hF hf hR rfl np2 (fun ⟨i, hi⟩ => absurd hi.2.1 (hD i hi.1)) fun _ => ⟨2002, e4 _ ⟨rfl, ?_⟩⟩
  refine re_mk ⟨hR, ⟨hn, hl, hM, him, hb⟩, hP, fun y hy hz => ?_⟩
  by_cases ey : y = x
  · subst ey
    exact ⟨p, q', hp, e2, hbp, hld, e2'⟩
  · rw [e1 y ey]
    exact hX y hy hz
end E1
