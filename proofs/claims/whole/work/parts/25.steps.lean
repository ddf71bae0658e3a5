section D5
variable {r n : Nat} {pt M b : Nat → Nat} {xrc xbc xfc xrn xra xfi xfp xgn xac xlr : Int32} {xhm : Int64} {xrp xrA xrB xrC xby xhd xst xbg xco xen xre xld xim xic xih xif xop xbp xbq xsc xna xhe xlo xsk : Nat → Int32} {yru ypl ynu yps yfi yac yre : Int32} {yme : Int64} {yrp yrq yrl yby yle ypr ywa ybp ybq ybo ysc yfn yat yhi ylo yen : Nat → Int32}
/-! reached by every good set of ways -/
def rr_R (b : Nat → Nat) (f i h : Nat) : Prop := pl_IS b f i ∧ ∀ R, pl_Good b f R → R i h
theorem rr_0 {b : Nat → Nat} {n f : Nat} (hF : pl_Fmt b n) (hf : f < pl_nf b) : rr_R b f (pl_s b f) 0 := ⟨pl_IS0 (hF.2.2.2.2.1 f hf).2.2.1, fun R hG => hG.1⟩
theorem rr_s {b : Nat → Nat} {f i h : Nat} (hW : pl_Flow b f) (hJ : ∀ i, pl_IS b f i → pl_jok b f i) (hR : rr_R b f i h) :
    pl_tk b i ≤ h ∧ h - pl_tk b i + pl_gv (b i) ≤ 6 ∧ ((b i = 10 ∨ b i = 11) → ∃ j : Nat, pl_tg b i = (j : Int) ∧ j < pl_e b f ∧ rr_R b f j (h - pl_tk b i + pl_gv (b i))) ∧
      (b i ≠ 10 → b i ≠ 16 → i + pl_sz (b i) < pl_e b f ∧ rr_R b f (i + pl_sz (b i)) (h - pl_tk b i + pl_gv (b i))) := by
  obtain ⟨R0, hG0⟩ := hW
  have g0 := hG0.2.2 i h (hR.2 R0 hG0)
  refine ⟨g0.1, g0.2.1, fun c => ?_, fun c1 c2 => ⟨(g0.2.2.2 c1 c2).1, pl_ISn hR.1 (g0.2.2.2 c1 c2).1, fun R hG => ((hG.2.2 i h (hR.2 R hG)).2.2.2 c1 c2).2⟩⟩
  obtain ⟨j, e, s, ij⟩ := hJ i hR.1 c
  refine ⟨j, e, ij.1, ij, fun R hG => ?_⟩
  obtain ⟨j', e', _, _, q⟩ := (hG.2.2 i h (hR.2 R hG)).2.2.1 c
  have : j = j' := by omega
  subst this
  exact q
/-- one activation, on both sides -/
def lv_A (b : Nat → Nat) (p l f a hh : Nat) (xna xhe xlo xsk yfn yat yhi ylo yen : Nat → Int32) : Prop :=
  f < pl_nf b ∧ yfn l = nI f ∧ xna l = nI (p * 120 + a) ∧ yat l = nI (p * 120 + a) ∧ xhe l = nI hh ∧ yhi l = nI hh ∧ hh ≤ 6 ∧ (∀ j, j < hh → xsk (l * 6 + j) = yen (l * 7 + j)) ∧ ∀ i, i < 5 → xlo (l * 5 + i) = ylo (l * 5 + i)
def lv_W (b : Nat → Nat) (p t : Nat) (xna xhe xlo xsk yfn yat yhi ylo yen : Nat → Int32) : Prop :=
  ∀ l, l < t → ∃ f a hh, lv_A b p l f a hh xna xhe xlo xsk yfn yat yhi ylo yen ∧ hh < 6 ∧ rr_R b f a (hh + 1) ∧ pl_L b f a
/-- alike below t -/
def lv_S (t : Nat) (xna xhe xlo xsk yfn yat yhi ylo yen xna' xhe' xlo' xsk' yfn' yat' yhi' ylo' yen' : Nat → Int32) : Prop :=
  ∀ l, l < t → xna' l = xna l ∧ xhe' l = xhe l ∧ yfn' l = yfn l ∧ yat' l = yat l ∧ yhi' l = yhi l ∧ (∀ j, j < 6 → xsk' (l * 6 + j) = xsk (l * 6 + j)) ∧ (∀ j, j < 6 → yen' (l * 7 + j) = yen (l * 7 + j)) ∧ (∀ i, i < 5 → xlo' (l * 5 + i) = xlo (l * 5 + i)) ∧ ∀ i, i < 5 → ylo' (l * 5 + i) = ylo (l * 5 + i)
theorem lv_c {b : Nat → Nat} {p t : Nat} {xna xhe xlo xsk yfn yat yhi ylo yen xna' xhe' xlo' xsk' yfn' yat' yhi' ylo' yen' : Nat → Int32} (h : lv_W b p t xna xhe xlo xsk yfn yat yhi ylo yen)
    (hs : lv_S t xna xhe xlo xsk yfn yat yhi ylo yen xna' xhe' xlo' xsk' yfn' yat' yhi' ylo' yen') : lv_W b p t xna' xhe' xlo' xsk' yfn' yat' yhi' ylo' yen' := by
  intro l hl
  obtain ⟨f, a, hh, ⟨a1, a2, a3, a4, a5, a6, a7, a8, a9⟩, r1, r2, r3⟩ := h l hl
  obtain ⟨e1, e2, e3, e4, e5, e6, e7, e8, e9⟩ := hs l hl
  refine ⟨f, a, hh, ⟨a1, by rw [e3]; exact a2, by rw [e1]; exact a3, by rw [e4]; exact a4, by rw [e2]; exact a5, by rw [e5]; exact a6, a7, fun j hj => ?_, fun i hi => ?_⟩, r1, r2, r3⟩
  · rw [e6 j (by omega), e7 j (by omega)]; exact a8 j hj
  · rw [e8 i hi, e9 i hi]; exact a9 i hi
def rn_V (M : Nat → Nat) (p x n : Nat) (xim xic xih xbp : Nat → Int32) : Prop :=
  p < 3 ∧ x < 4 ∧ (∀ i, M i < 256) ∧ pl_WF (re_b M p) n ∧ (∀ i, i < 120 → xim (p * 120 + i) = nI (re_b M p i)) ∧ xbp x = nI p ∧
    ∀ f, f < pl_nf (re_b M p) → xih (p * 4 + f) = nI (p * 120 + pl_hd (re_b M p) f) ∧ ∀ i, pl_IS (re_b M p) f i → xic (p * 120 + i) = nI (pl_C (re_b M p) f i)
theorem pl_C_le {b : Nat → Nat} {n f i : Nat} (hF : pl_Fmt b n) (hf : f < pl_nf b) (hI : pl_IS b f i) : pl_C b f i ≤ 205 := by
  by_cases h : pl_L b f i
  · rw [pl_C_L h]
    have := pl_T_le (b := b) (f := f) (i := i + pl_sz (b i)) (by have := pl_ISge hI; omega) (hF.2.2.2.2.1 f hf).2.2.2
    have := pl_wt_pos (b i)
    omega
  · rw [pl_C_n h]; omega
theorem up_same {g : Nat → Int32} {k : Nat} {v : Int32} (h : g k = v) : upd g k v = g := by
  funext j
  by_cases e : j = k
  · subst e; rw [pk_us, h]
  · rw [pk_un e]
theorem y_stp {post : Int32 → SY → Prop} {t f a p x q : Nat} (hV : rn_V M p x n xim xic xih xbp) (ht : t < 6) (hf : f < pl_nf (re_b M p)) (hfn : yfn t = nI f) (hat : yat t = nI (p * 120 + a)) (hI : pl_IS (re_b M p) f a) (hq : ybq x = nI q) (hq2 : q ≤ 2000)
    (kq : q < pl_C (re_b M p) f a → post 1 (yru, ypl, ynu, yps, yfi, nI (t + 1), yre, yme, yrp, yrq, yrl, fun i => nI (M i), yle, ypr, ywa, ybp, ybq, ybo, ysc, yfn, yat, yhi, ylo, yen))
    (k : pl_C (re_b M p) f a ≤ q → wY_step_79 post (nI p) (nI x) (nI t) (nI (p * 120 + a)) (nI (re_b M p a)) yru ypl ynu yps yfi (nI (t + 1)) yre yme yrp yrq yrl (fun i => nI (M i)) yle ypr ywa ybp (upd ybq x (nI (q - pl_C (re_b M p) f a))) ybo ysc yfn yat yhi ylo yen) :
    wpY_step post (yru, ypl, ynu, yps, yfi, nI (t + 1), yre, yme, yrp, yrq, yrl, fun i => nI (M i), yle, ypr, ywa, ybp, ybq, ybo, ysc, yfn, yat, yhi, ylo, yen) (nI p) (nI x) := by
  obtain ⟨hp, hx, hv, ⟨hn, hF, hff⟩, _, _, _⟩ := hV
  have he := pl_ef hF hf
  have la := hI.1
  have cl := pl_C_le hF hf hI
  have V : vp_in (nI t) 6 := vp_in_nI ht (by omega)
  have Vx : vp_in (nI x) 4 := vp_in_nI hx (by omega)
  unfold wpY_step
  dsimp only
  refine nm_r (nI_pred t) ⟨V, ?_⟩
  rw [nI_clamp (show t < 2 ^ 31 by omega), hat, hfn]
  refine nm_e ⟨vp_in_nI (by omega) (by omega), nm_r (e' := nI (re_b M p a)) (y_rd (by omega) (by omega)) ⟨V, ?_⟩⟩
  refine y_leads (by omega) hn hF hf hv (hff f hf).1 (by omega) (fun hL => br_f ba_10 ⟨V, ?_⟩) fun hL => br_t rfl ?_
  · refine y_cost (by omega) hn hF hf hv (hff f hf).1 hI ⟨Vx, ?_⟩
    rw [← pl_C_L hL, nI_clamp (by omega), hq]
    exact pk_le (pl_C (re_b M p) f a) q (fun h => ⟨Vx, Vx, nm_r (by rw [pk_sub h]) (k h)⟩) fun h => kq h
  · have K := k (by rw [pl_C_n hL]; omega)
    rw [pl_C_n hL, up_same (by rw [hq]; rfl)] at K
    exact K
end D5
section D6
variable {r n : Nat} {pt M b : Nat → Nat} {xrc xbc xfc xrn xra xfi xfp xgn xac xlr : Int32} {xhm : Int64} {xrp xrA xrB xrC xby xhd xst xbg xco xen xre xld xim xic xih xif xop xbp xbq xsc xna xhe xlo xsk : Nat → Int32} {yru ypl ynu yps yfi yac yre : Int32} {yme : Int64} {yrp yrq yrl yby yle ypr ywa ybp ybq ybo ysc yfn yat yhi ylo yen : Nat → Int32}
variable {xac1 xlr1 : Int32} {hm1 : Int64} {bq1 sc1 na1 he1 lo1 sk1 : Nat → Int32} {yac1 : Int32} {fn1 at1 hi1 yl1 en1 : Nat → Int32}
theorem x_qu {post : Int32 → SX → Prop} {t a p x q c k st : Nat} (ht : t < 6) (hp : p < 3) (hx : x < 4) (ha : a < 120) (hst : st ≤ 2000) (hna : xna t = nI (p * 120 + a)) (hic : xic (p * 120 + a) = nI c) (hc : c ≤ 205) (hq : xbq x = nI q) (hq2 : q ≤ 2000) (h : q < c)
    (K : post 1 (xrc, xbc, xfc, xrn, xra, xfi, xfp, xgn, nI (t + 1), xlr, xhm, xrp, xrA, xrB, xrC, xby, xhd, xst, xbg, xco, xen, xre, xld, xim, xic, xih, xif, xop, xbp, xbq, xsc, xna, xhe, xlo, xsk)) : wX_run_2 post (nI x) (k + 1) (nI st) xrc xbc xfc xrn xra xfi xfp xgn (nI (t + 1)) xlr xhm xrp xrA xrB xrC xby xhd xst xbg xco xen xre xld xim xic xih xif xop xbp xbq xsc xna xhe xlo xsk := by
  have Vx : vp_in (nI x) 4 := vp_in_nI hx (by omega)
  unfold wX_run_2
  rw [nI_pred, nI_clamp (show t < 2 ^ 31 by omega), hna]
  refine br_f (nI_ge (b := 2001) (by omega) (by decide)) ⟨vp_in_nI ht (by omega), nm_e ⟨Vx, vp_in_nI (by omega) (by omega), ?_⟩⟩
  rw [nI_clamp (by omega), nI_clamp (by omega), hic, hq]
  exact br_f (nI_ge h (by omega)) K
theorem x_go {post : Int32 → SX → Prop} {t a p x q c k st : Nat} (ht : t < 6) (hp : p < 3) (hx : x < 4) (ha : a < 120) (hst : st ≤ 2000) (hna : xna t = nI (p * 120 + a)) (hic : xic (p * 120 + a) = nI c) (hc : c ≤ 205) (hq : xbq x = nI q) (hq2 : q ≤ 2000) (h : c ≤ q)
    (hX : ∀ P : Int32 → SX → Prop, P (-1) (xrc, xbc, xfc, xrn, xra, xfi, xfp, xgn, xac1, xlr, hm1, xrp, xrA, xrB, xrC, xby, xhd, xst, xbg, xco, xen, xre, xld, xim, xic, xih, xif, xop, xbp, bq1, sc1, na1, he1, lo1, sk1) → wpX_perform P (xrc, xbc, xfc, xrn, xra, xfi, xfp, xgn, nI (t + 1), xlr, xhm, xrp, xrA, xrB, xrC, xby, xhd, xst, xbg, xco, xen, xre, xld, xim, xic, xih, xif, xop, xbp, upd xbq x (nI (q - c)), xsc, xna, xhe, xlo, xsk) (nI x) (nI (p * 120 + a)))
    (K : wX_run_2 post (nI x) k (nI (st + 1)) xrc xbc xfc xrn xra xfi xfp xgn xac1 xlr hm1 xrp xrA xrB xrC xby xhd xst xbg xco xen xre xld xim xic xih xif xop xbp bq1 sc1 na1 he1 lo1 sk1) : wX_run_2 post (nI x) (k + 1) (nI st) xrc xbc xfc xrn xra xfi xfp xgn (nI (t + 1)) xlr xhm xrp xrA xrB xrC xby xhd xst xbg xco xen xre xld xim xic xih xif xop xbp xbq xsc xna xhe xlo xsk := by
  have Vx : vp_in (nI x) 4 := vp_in_nI hx (by omega)
  have Va : vp_in (nI (p * 120 + a)) 360 := vp_in_nI (by omega) (by omega)
  unfold wX_run_2
  rw [nI_pred, nI_clamp (show t < 2 ^ 31 by omega), hna]
  refine br_f (nI_ge (b := 2001) (by omega) (by decide)) ⟨vp_in_nI ht (by omega), nm_e ⟨Vx, Va, ?_⟩⟩
  rw [nI_clamp (by omega), nI_clamp (by omega), hic, hq]
  refine br_t (nI_le h (by omega)) ⟨Vx, Va, Vx, nm_r (by rw [pk_sub h]) (hX _ (br_t rfl (nm_r (nI_1 st) K)))⟩
theorem x_en {post : Int32 → SX → Prop} {t a p x q c k st : Nat} {w : Int32} (ht : t < 6) (hp : p < 3) (hx : x < 4) (ha : a < 120) (hst : st ≤ 2000) (hna : xna t = nI (p * 120 + a)) (hic : xic (p * 120 + a) = nI c) (hc : c ≤ 205) (hq : xbq x = nI q) (hq2 : q ≤ 2000) (h : c ≤ q) (hw : ¬ w = -1)
    (hX : ∀ P : Int32 → SX → Prop, P w (xrc, xbc, xfc, xrn, xra, xfi, xfp, xgn, xac1, xlr1, hm1, xrp, xrA, xrB, xrC, xby, xhd, xst, xbg, xco, xen, xre, xld, xim, xic, xih, xif, xop, xbp, bq1, sc1, na1, he1, lo1, sk1) → wpX_perform P (xrc, xbc, xfc, xrn, xra, xfi, xfp, xgn, nI (t + 1), xlr, xhm, xrp, xrA, xrB, xrC, xby, xhd, xst, xbg, xco, xen, xre, xld, xim, xic, xih, xif, xop, xbp, upd xbq x (nI (q - c)), xsc, xna, xhe, xlo, xsk) (nI x) (nI (p * 120 + a)))
    (K : post w (xrc, xbc, xfc, xrn, xra, xfi, xfp, xgn, xac1, xlr1, hm1, xrp, xrA, xrB, xrC, xby, xhd, xst, xbg, xco, xen, xre, xld, xim, xic, xih, xif, xop, xbp, bq1, sc1, na1, he1, lo1, sk1)) : wX_run_2 post (nI x) (k + 1) (nI st) xrc xbc xfc xrn xra xfi xfp xgn (nI (t + 1)) xlr xhm xrp xrA xrB xrC xby xhd xst xbg xco xen xre xld xim xic xih xif xop xbp xbq xsc xna xhe xlo xsk := by
  have Vx : vp_in (nI x) 4 := vp_in_nI hx (by omega)
  have Va : vp_in (nI (p * 120 + a)) 360 := vp_in_nI (by omega) (by omega)
  unfold wX_run_2
  rw [nI_pred, nI_clamp (show t < 2 ^ 31 by omega), hna]
  refine br_f (nI_ge (b := 2001) (by omega) (by decide)) ⟨vp_in_nI ht (by omega), nm_e ⟨Vx, Va, ?_⟩⟩
  rw [nI_clamp (by omega), nI_clamp (by omega), hic, hq]
  refine br_t (nI_le h (by omega)) ⟨Vx, Va, Vx, nm_r (by rw [pk_sub h]) (hX _ (br_f hw K))⟩
theorem y_go {post : Int32 → SY → Prop} {p x k st : Nat} (hst : st ≤ 2000)
    (hY : ∀ P : Int32 → SY → Prop, P (-1) (yru, ypl, ynu, yps, yfi, yac1, yre, hm1, yrp, yrq, yrl, yby, yle, ypr, ywa, ybp, bq1, ybo, sc1, fn1, at1, hi1, yl1, en1) → wpY_step P (yru, ypl, ynu, yps, yfi, yac, yre, yme, yrp, yrq, yrl, yby, yle, ypr, ywa, ybp, ybq, ybo, ysc, yfn, yat, yhi, ylo, yen) (nI p) (nI x))
    (K : wY_call_115 post (nI x) (nI p) k (-1) (nI (st + 1)) yru ypl ynu yps yfi yac1 yre hm1 yrp yrq yrl yby yle ypr ywa ybp bq1 ybo sc1 fn1 at1 hi1 yl1 en1) : wY_call_115 post (nI x) (nI p) (k + 1) (-1) (nI st) yru ypl ynu yps yfi yac yre yme yrp yrq yrl yby yle ypr ywa ybp ybq ybo ysc yfn yat yhi ylo yen :=
  br_f (nI_ge (b := 3000) (by omega) (by decide)) (br_f (by decide) (hY _ (nm_r (nI_1 st) K)))
theorem y_en {post : Int32 → SY → Prop} {p x k st : Nat} {w : Int32} (hst : st ≤ 2000) (hw : 0 ≤ w)
    (hY : ∀ P : Int32 → SY → Prop, P w (yru, ypl, ynu, yps, yfi, yac1, xlr1, hm1, yrp, yrq, yrl, yby, yle, ypr, ywa, ybp, bq1, ybo, sc1, fn1, at1, hi1, yl1, en1) → wpY_step P (yru, ypl, ynu, yps, yfi, yac, yre, yme, yrp, yrq, yrl, yby, yle, ypr, ywa, ybp, ybq, ybo, ysc, yfn, yat, yhi, ylo, yen) (nI p) (nI x))
    (K : post w (yru, ypl, ynu, yps, yfi, yac1, xlr1, hm1, yrp, yrq, yrl, yby, yle, ypr, ywa, ybp, bq1, ybo, sc1, fn1, at1, hi1, yl1, en1)) : wY_call_115 post (nI x) (nI p) (k + 2) (-1) (nI st) yru ypl ynu yps yfi yac yre yme yrp yrq yrl yby yle ypr ywa ybp ybq ybo ysc yfn yat yhi ylo yen :=
  br_f (nI_ge (b := 3000) (by omega) (by decide)) (br_f (by decide) (hY _ (nm_r (nI_1 st) (br_f (nI_ge (b := 3000) (by omega) (by decide)) (br_t hw K)))))
/-- both runs end alike: k the steps that are left, st the steps done -/
def rn_E (x p : Nat) (q0 : Nat → Int32) (k st : Nat) (xrc xbc xfc xrn xra xfi xfp xgn xac xlr : Int32) (xhm : Int64) (xrp xrA xrB xrC xby xhd xst xbg xco xen xre xld xim xic xih xif xop xbp xbq xsc xna xhe xlo xsk : Nat → Int32) (yru ypl ynu yps yfi yac yre : Int32) (yme : Int64) (yrp yrq yrl yby yle ypr ywa ybp ybq ybo ysc yfn yat yhi ylo yen : Nat → Int32) : Prop :=
  ∃ (w rs : Int32) (hm : Int64) (bq sc : Nat → Int32) (xac1 : Int32) (na1 he1 lo1 sk1 : Nat → Int32) (yac1 : Int32) (fn1 at1 hi1 yl1 en1 : Nat → Int32),
    (∀ y, y ≠ x → bq y = q0 y) ∧ (∃ q, q ≤ 2000 ∧ bq x = nI q) ∧
    (∀ post : Int32 → SX → Prop, post w (xrc, xbc, xfc, xrn, xra, xfi, xfp, xgn, xac1, rs, hm, xrp, xrA, xrB, xrC, xby, xhd, xst, xbg, xco, xen, xre, xld, xim, xic, xih, xif, xop, xbp, bq, sc, na1, he1, lo1, sk1) → wX_run_2 post (nI x) (k + 1) (nI st) xrc xbc xfc xrn xra xfi xfp xgn xac xlr xhm xrp xrA xrB xrC xby xhd xst xbg xco xen xre xld xim xic xih xif xop xbp xbq xsc xna xhe xlo xsk) ∧
    (∀ post : Int32 → SY → Prop, post w (yru, ypl, ynu, yps, yfi, yac1, rs, hm, yrp, yrq, yrl, yby, yle, ypr, ywa, ybp, bq, ybo, sc, fn1, at1, hi1, yl1, en1) → wY_call_115 post (nI x) (nI p) (k + 2) (-1) (nI st) yru ypl ynu yps yfi yac yre yme yrp yrq yrl yby yle ypr ywa ybp ybq ybo ysc yfn yat yhi ylo yen)
theorem rn_next {t f a p x q k st : Nat} {q0 : Nat → Int32} (hV : rn_V M p x n xim xic xih xbp) (ht : t < 6) (hA : lv_A (re_b M p) p t f a r xna xhe xlo xsk yfn yat yhi ylo yen) (hI : pl_IS (re_b M p) f a) (hq : xbq x = nI q) (hq2 : q ≤ 2000) (hst : st ≤ 2000) (h : pl_C (re_b M p) f a ≤ q)
    (hX : ∀ P : Int32 → SX → Prop, P (-1) (xrc, xbc, xfc, xrn, xra, xfi, xfp, xgn, xac1, 0, hm1, xrp, xrA, xrB, xrC, xby, xhd, xst, xbg, xco, xen, xre, xld, xim, xic, xih, xif, xop, xbp, bq1, sc1, na1, he1, lo1, sk1) → wpX_perform P (xrc, xbc, xfc, xrn, xra, xfi, xfp, xgn, nI (t + 1), 0, xhm, xrp, xrA, xrB, xrC, xby, xhd, xst, xbg, xco, xen, xre, xld, xim, xic, xih, xif, xop, xbp, upd xbq x (nI (q - pl_C (re_b M p) f a)), xsc, xna, xhe, xlo, xsk) (nI x) (nI (p * 120 + a)))
    (hY : ∀ P : Int32 → SY → Prop, P (-1) (yru, ypl, ynu, yps, yfi, yac1, 0, hm1, yrp, yrq, yrl, fun i => nI (M i), yle, ypr, ywa, ybp, bq1, ybo, sc1, fn1, at1, hi1, yl1, en1) → wY_step_79 P (nI p) (nI x) (nI t) (nI (p * 120 + a)) (nI (re_b M p a)) yru ypl ynu yps yfi (nI (t + 1)) 0 xhm yrp yrq yrl (fun i => nI (M i)) yle ypr ywa ybp (upd xbq x (nI (q - pl_C (re_b M p) f a))) ybo xsc yfn yat yhi ylo yen)
    (E : rn_E x p q0 k (st + 1) xrc xbc xfc xrn xra xfi xfp xgn xac1 0 hm1 xrp xrA xrB xrC xby xhd xst xbg xco xen xre xld xim xic xih xif xop xbp bq1 sc1 na1 he1 lo1 sk1 yru ypl ynu yps yfi yac1 0 hm1 yrp yrq yrl (fun i => nI (M i)) yle ypr ywa ybp bq1 ybo sc1 fn1 at1 hi1 yl1 en1) :
    rn_E x p q0 (k + 1) st xrc xbc xfc xrn xra xfi xfp xgn (nI (t + 1)) 0 xhm xrp xrA xrB xrC xby xhd xst xbg xco xen xre xld xim xic xih xif xop xbp xbq xsc xna xhe xlo xsk yru ypl ynu yps yfi (nI (t + 1)) 0 xhm yrp yrq yrl (fun i => nI (M i)) yle ypr ywa ybp xbq ybo xsc yfn yat yhi ylo yen := by
  obtain ⟨w, rs, hm, bq, sc, ac2, na2, he2, lo2, sk2, yc2, fn2, at2, hi2, yl2, en2, e1, e2, e3, e4⟩ := E
  obtain ⟨a1, a2, a3, a4, a5, a6, a7, a8, a9⟩ := hA
  have hF := hV.2.2.2.1.2.1
  have he := pl_ef hF a1
  have la := hI.1
  have hn := hV.2.2.2.1.1
  refine ⟨w, rs, hm, bq, sc, ac2, na2, he2, lo2, sk2, yc2, fn2, at2, hi2, yl2, en2, e1, e2, fun post K => ?_, fun post K => ?_⟩
  · exact x_go ht hV.1 hV.2.1 (by omega) hst a3 ((hV.2.2.2.2.2.2 f a1).2 a hI) (pl_C_le hF a1 hI) hq hq2 h hX (e3 post K)
  · refine y_go hst (fun P q' => ?_) (e4 post K)
    exact y_stp hV ht a1 a2 a4 hI hq hq2 (fun z => absurd z (by omega)) fun _ => hY P q'
theorem rn_fin {t f a p x q k st : Nat} {w : Int32} {q0 : Nat → Int32} (hV : rn_V M p x n xim xic xih xbp) (ht : t < 6) (hA : lv_A (re_b M p) p t f a r xna xhe xlo xsk yfn yat yhi ylo yen) (hI : pl_IS (re_b M p) f a) (hq : xbq x = nI q) (hq2 : q ≤ 2000) (hst : st ≤ 2000) (h : pl_C (re_b M p) f a ≤ q) (hw : ¬ w = -1) (hw0 : 0 ≤ w) (hqs : ∀ y, y ≠ x → xbq y = q0 y)
    (hX : ∀ P : Int32 → SX → Prop, P w (xrc, xbc, xfc, xrn, xra, xfi, xfp, xgn, xac1, xlr1, xhm, xrp, xrA, xrB, xrC, xby, xhd, xst, xbg, xco, xen, xre, xld, xim, xic, xih, xif, xop, xbp, upd xbq x (nI (q - pl_C (re_b M p) f a)), xsc, na1, he1, lo1, sk1) → wpX_perform P (xrc, xbc, xfc, xrn, xra, xfi, xfp, xgn, nI (t + 1), 0, xhm, xrp, xrA, xrB, xrC, xby, xhd, xst, xbg, xco, xen, xre, xld, xim, xic, xih, xif, xop, xbp, upd xbq x (nI (q - pl_C (re_b M p) f a)), xsc, xna, xhe, xlo, xsk) (nI x) (nI (p * 120 + a)))
    (hY : ∀ P : Int32 → SY → Prop, P w (yru, ypl, ynu, yps, yfi, yac1, xlr1, xhm, yrp, yrq, yrl, fun i => nI (M i), yle, ypr, ywa, ybp, upd xbq x (nI (q - pl_C (re_b M p) f a)), ybo, xsc, fn1, at1, hi1, yl1, en1) → wY_step_79 P (nI p) (nI x) (nI t) (nI (p * 120 + a)) (nI (re_b M p a)) yru ypl ynu yps yfi (nI (t + 1)) 0 xhm yrp yrq yrl (fun i => nI (M i)) yle ypr ywa ybp (upd xbq x (nI (q - pl_C (re_b M p) f a))) ybo xsc yfn yat yhi ylo yen) :
    rn_E x p q0 k st xrc xbc xfc xrn xra xfi xfp xgn (nI (t + 1)) 0 xhm xrp xrA xrB xrC xby xhd xst xbg xco xen xre xld xim xic xih xif xop xbp xbq xsc xna xhe xlo xsk yru ypl ynu yps yfi (nI (t + 1)) 0 xhm yrp yrq yrl (fun i => nI (M i)) yle ypr ywa ybp xbq ybo xsc yfn yat yhi ylo yen := by
  obtain ⟨a1, a2, a3, a4, a5, a6, a7, a8, a9⟩ := hA
  have hF := hV.2.2.2.1.2.1
  have he := pl_ef hF a1
  have la := hI.1
  have hn := hV.2.2.2.1.1
  refine ⟨w, xlr1, xhm, upd xbq x (nI (q - pl_C (re_b M p) f a)), xsc, xac1, na1, he1, lo1, sk1, yac1, fn1, at1, hi1, yl1, en1, fun y hy => ?_, ⟨q - pl_C (re_b M p) f a, by omega, pk_us⟩, fun post K => ?_, fun post K => ?_⟩
  · rw [pk_un hy]; exact hqs y hy
  · exact x_en ht hV.1 hV.2.1 (by omega) hst a3 ((hV.2.2.2.2.2.2 f a1).2 a hI) (pl_C_le hF a1 hI) hq hq2 h hw hX K
  · refine y_en hst hw0 (fun P q' => ?_) K
    exact y_stp hV ht a1 a2 a4 hI hq hq2 (fun z => absurd z (by omega)) fun _ => hY P q'
theorem rn_qu {t f a p x q k st : Nat} {q0 : Nat → Int32} (hV : rn_V M p x n xim xic xih xbp) (ht : t < 6) (hA : lv_A (re_b M p) p t f a r xna xhe xlo xsk yfn yat yhi ylo yen) (hI : pl_IS (re_b M p) f a) (hq : xbq x = nI q) (hq2 : q ≤ 2000) (hst : st ≤ 2000) (h : q < pl_C (re_b M p) f a) (hqs : ∀ y, y ≠ x → xbq y = q0 y) :
    rn_E x p q0 k st xrc xbc xfc xrn xra xfi xfp xgn (nI (t + 1)) 0 xhm xrp xrA xrB xrC xby xhd xst xbg xco xen xre xld xim xic xih xif xop xbp xbq xsc xna xhe xlo xsk yru ypl ynu yps yfi (nI (t + 1)) 0 xhm yrp yrq yrl (fun i => nI (M i)) yle ypr ywa ybp xbq ybo xsc yfn yat yhi ylo yen := by
  obtain ⟨a1, a2, a3, a4, a5, a6, a7, a8, a9⟩ := hA
  have hF := hV.2.2.2.1.2.1
  have he := pl_ef hF a1
  have la := hI.1
  have hn := hV.2.2.2.1.1
  refine ⟨1, 0, xhm, xbq, xsc, nI (t + 1), xna, xhe, xlo, xsk, nI (t + 1), yfn, yat, yhi, ylo, yen, hqs, ⟨q, hq2, hq⟩, fun post K => ?_, fun post K => ?_⟩
  · exact x_qu ht hV.1 hV.2.1 (by omega) hst a3 ((hV.2.2.2.2.2.2 f a1).2 a hI) (pl_C_le hF a1 hI) hq hq2 h K
  · refine y_en hst (by decide) (fun P q' => ?_) K
    exact y_stp hV ht a1 a2 a4 hI hq hq2 (fun _ => q') fun z => absurd z (by omega)
end D6
