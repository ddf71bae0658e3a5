section D4
variable {r n : Nat} {pt M b : Nat → Nat} {xrc xbc xfc xrn xra xfi xfp xgn xac xlr : Int32} {xhm : Int64} {xrp xrA xrB xrC xby xhd xst xbg xco xen xre xld xim xic xih xif xop xbp xbq xsc xna xhe xlo xsk : Nat → Int32} {yru ypl ynu yps yfi yac yre : Int32} {yme : Int64} {yrp yrq yrl yby yle ypr ywa ybp ybq ybo ysc yfn yat yhi ylo yen : Nat → Int32}
theorem zz_out {g : Nat → Int32} {base j : Nat} : ∀ m, (j < base ∨ base + m ≤ j) → zz_f g base m j = g j := by
  intro m
  induction m with
  | zero => intro _; rfl
  | succ m ih =>
    intro h
    show upd (zz_f g base m) (base + m) 0 j = g j
    rw [pk_un (by omega), ih (by omega)]
theorem zz_in {g : Nat → Int32} {base k : Nat} : ∀ m, k < m → zz_f g base m (base + k) = 0 := by
  intro m
  induction m with
  | zero => intro h; omega
  | succ m ih =>
    intro h
    show upd (zz_f g base m) (base + m) 0 (base + k) = 0
    by_cases e : k = m
    · subst e; exact pk_us
    · rw [pk_un (by omega), ih (by omega)]
theorem x_clear {post : SX → Prop} {q : Nat} (hq : q < 6) (k : post (xrc, xbc, xfc, xrn, xra, xfi, xfp, xgn, nI q, xlr, xhm, xrp, xrA, xrB, xrC, xby, xhd, xst, xbg, xco, xen, xre, xld, xim, xic, xih, xif, xop, xbp, xbq, xsc, xna, xhe, zz_f xlo (q * 5) 5, xsk)) : wpX_clearLocals post (xrc, xbc, xfc, xrn, xra, xfi, xfp, xgn, nI q, xlr, xhm, xrp, xrA, xrB, xrC, xby, xhd, xst, xbg, xco, xen, xre, xld, xim, xic, xih, xif, xop, xbp, xbq, xsc, xna, xhe, xlo, xsk) := by
  have L : ∀ d i, i + d = 5 → wX_clearLocals_2 post xrc xbc xfc xrn xra xfi xfp xgn (nI q) xlr xhm (d + 1) (nI i) xrp xrA xrB xrC xby xhd xst xbg xco xen xre xld xim xic xih xif xop xbp xbq xsc xna xhe (zz_f xlo (q * 5) i) xsk := by
    intro d
    induction d with
    | zero =>
      intro i hi
      have : i = 5 := by omega
      subst this
      exact br_t (nI_le (a := 5) (b := 5) (by omega) (by omega)) k
    | succ d ih =>
      intro i hi
      have e : nI q * 5 + nI i = nI (q * 5 + i) := by rw [show nI q * 5 = nI (q * 5) from pk_mul q 5, nI_add]
      refine br_f (nI_ge (b := 5) (by omega) (by decide)) ⟨by rw [e]; exact vp_in_nI (by omega) (by omega), nm_r ?_ (nm_r (nI_1 i) (ih (i + 1) (by omega)))⟩
      rw [e, nI_clamp (by omega)]
      rfl
  exact ⟨6, L 5 0 rfl⟩
theorem x_act {post : SX → Prop} {q d : Nat} (hq : q < 6) (k : post (xrc, xbc, xfc, xrn, xra, xfi, xfp, xgn, nI (q + 1), xlr, xhm, xrp, xrA, xrB, xrC, xby, xhd, xst, xbg, xco, xen, xre, xld, xim, xic, xih, xif, xop, xbp, xbq, xsc, upd xna q (nI (d + 3)), upd xhe q 0, xlo, xsk)) : wpX_activate post (xrc, xbc, xfc, xrn, xra, xfi, xfp, xgn, nI q, xlr, xhm, xrp, xrA, xrB, xrC, xby, xhd, xst, xbg, xco, xen, xre, xld, xim, xic, xih, xif, xop, xbp, xbq, xsc, xna, xhe, xlo, xsk) (nI d) := by
  unfold wpX_activate
  dsimp only
  rw [nI_clamp (by omega), show nI d + 3 = nI (d + 3) from nI_add _ 3]
  exact ⟨vp_in_nI hq (by omega), nm_e ⟨vp_in_nI hq (by omega), nm_e (nm_r (nI_1 q) k)⟩⟩
theorem y_enter {post : SY → Prop} {q p f : Nat} (hq : q < 6) (hp : p ≤ 3) (hn : n ≤ 120) (hF : pl_Fmt (re_b M p) n) (hf : f < pl_nf (re_b M p))
    (k : post (yru, ypl, ynu, yps, yfi, nI (q + 1), yre, yme, yrp, yrq, yrl, fun i => nI (M i), yle, ypr, ywa, ybp, ybq, ybo, ysc, upd yfn q (nI f), upd yat q (nI (p * 120 + pl_s (re_b M p) f)), upd yhi q 0, zz_f ylo (q * 5) 5, yen)) : wpY_enter post (yru, ypl, ynu, yps, yfi, nI q, yre, yme, yrp, yrq, yrl, fun i => nI (M i), yle, ypr, ywa, ybp, ybq, ybo, ysc, yfn, yat, yhi, ylo, yen) (nI p) (nI f) := by
  have he := pl_ef hF hf
  have hh := pl_hf hF hf
  have h4 := hF.2.2.2.1
  have hi : ∀ i, i < f → pl_hd (re_b M p) i + 2 < 120 := by
    intro i h
    have := pl_hd_le (re_b M p) i f (by omega)
    omega
  have V : vp_in (nI q) 6 := vp_in_nI hq (by omega)
  unfold wpY_enter
  dsimp only
  rw [nI_clamp (by omega)]
  refine ⟨V, nm_e ?_⟩
  refine y_codeStart hp (by omega) hF.1 hi ⟨V, nm_e ⟨V, nm_e ⟨6, ?_⟩⟩⟩
  have L : ∀ d i, i + d = 5 → wY_enter_37 post yru ypl ynu yps yfi (nI q) yre yme (d + 1) (nI i) yrp yrq yrl (fun i => nI (M i)) yle ypr ywa ybp ybq ybo ysc (upd yfn q (nI f)) (upd yat q (nI (p * 120 + pl_s (re_b M p) f))) (upd yhi q 0) (zz_f ylo (q * 5) i) yen := by
    intro d
    induction d with
    | zero =>
      intro i hi
      have : i = 5 := by omega
      subst this
      exact br_t (nI_le (a := 5) (b := 5) (by omega) (by omega)) (nm_r (nI_1 q) k)
    | succ d ih =>
      intro i hi
      have e : nI q * 5 + nI i = nI (q * 5 + i) := by rw [show nI q * 5 = nI (q * 5) from pk_mul q 5, nI_add]
      refine br_f (nI_ge (b := 5) (by omega) (by decide)) ⟨by rw [e]; exact vp_in_nI (by omega) (by omega), nm_r ?_ (nm_r (nI_1 i) (ih (i + 1) (by omega)))⟩
      rw [e, nI_clamp (by omega)]
      rfl
  exact L 5 0 rfl
/-- the new activation's locals -/
def ca_L (t np : Nat) (v : Nat → Int32) (lo lo' : Nat → Int32) : Prop :=
  (∀ l, l ≤ t → ∀ i, i < 5 → lo' (l * 5 + i) = lo (l * 5 + i)) ∧ (∀ i, i < np → lo' ((t + 1) * 5 + i) = v i) ∧ ∀ i, np ≤ i → i < 5 → lo' ((t + 1) * 5 + i) = 0
theorem ca_L0 {t : Nat} {v lo : Nat → Int32} : ca_L t 0 v lo (zz_f lo ((t + 1) * 5) 5) :=
  ⟨fun l hl i hi => zz_out 5 (by omega), fun i hi => absurd hi (by omega), fun i _ hi => zz_in 5 hi⟩
theorem ca_L1 {t : Nat} {v lo : Nat → Int32} : ca_L t 1 v lo (upd (zz_f lo ((t + 1) * 5) 5) ((t + 1) * 5 + 0) (v 0)) := by
  refine ⟨fun l hl i hi => ?_, fun i hi => ?_, fun i h1 hi => ?_⟩
  · rw [pk_un (by omega)]; exact zz_out 5 (by omega)
  · have : i = 0 := by omega
    subst this
    exact pk_us
  · rw [pk_un (by omega)]; exact zz_in 5 hi
theorem ca_L2 {t : Nat} {v lo : Nat → Int32} : ca_L t 2 v lo (upd (upd (zz_f lo ((t + 1) * 5) 5) ((t + 1) * 5 + 1) (v 1)) ((t + 1) * 5 + 0) (v 0)) := by
  refine ⟨fun l hl i hi => ?_, fun i hi => ?_, fun i h1 hi => ?_⟩
  · rw [pk_un (by omega), pk_un (by omega)]; exact zz_out 5 (by omega)
  · rcases (show i = 0 ∨ i = 1 by omega) with rfl | rfl
    · exact pk_us
    · rw [pk_un (by omega)]; exact pk_us
  · rw [pk_un (by omega), pk_un (by omega)]; exact zz_in 5 hi
theorem x_12pre {post : Int32 → SX → Prop} {t a p o x np d : Nat} (ht : t < 6) (hp : p < 3) (hx : x < 4) (ha : a + 1 < 120) (hc : xim (p * 120 + a) = nI 12) (ho : xim (p * 120 + (a + 1)) = nI o) (ho4 : o < 4) (hbp : xbp x = nI p)
    (hd : xih (p * 4 + o) = nI (p * 120 + d)) (hdl : d < 120) (hnp : xim (p * 120 + d) = nI np)
    (kd : t = 5 → post 3 (xrc, xbc, xfc, xrn, xra, xfi, xfp, xgn, nI (t + 1), xlr, xhm, xrp, xrA, xrB, xrC, xby, xhd, xst, xbg, xco, xen, xre, xld, xim, xic, xih, xif, xop, xbp, xbq, xsc, upd xna t (nI (p * 120 + (a + 2))), xhe, xlo, xsk))
    (k : t < 5 → ∃ m, wX_callWithin_36 post (nI (p * 120 + d)) m (nI np - 1) xrc xbc xfc xrn xra xfi xfp xgn (nI (t + 1)) xlr xhm xrp xrA xrB xrC xby xhd xst xbg xco xen xre xld xim xic xih xif xop xbp xbq xsc (upd xna t (nI (p * 120 + (a + 2)))) xhe (zz_f xlo ((t + 1) * 5) 5) xsk) : wpX_perform post (xrc, xbc, xfc, xrn, xra, xfi, xfp, xgn, nI (t + 1), xlr, xhm, xrp, xrA, xrB, xrC, xby, xhd, xst, xbg, xco, xen, xre, xld, xim, xic, xih, xif, xop, xbp, xbq, xsc, xna, xhe, xlo, xsk) (nI x) (nI (p * 120 + a)) := by
  unfold wpX_perform
  dsimp only
  rw [nI_clamp (by omega), hc]
  refine ⟨vp_in_nI (by omega) (by omega), nm_e ?_⟩
  refine x_hasOp (c := 12) (by omega) (fun _ => br_f ba_10 ?_) fun q => absurd q (by decide)
  rw [show nI (p * 120 + a) + 1 = nI (p * 120 + (a + 1)) from nI_1 _, nI_clamp (by omega), ho]
  refine ⟨vp_in_nI (by omega) (by omega), ?_⟩
  refine nm_r (nI_pred t) (x_sizeOf (c := 12) (by omega) ⟨vp_in_nI ht (by omega), nm_r (e' := upd xna t (nI (p * 120 + (a + 2)))) ?_ ?_⟩)
  · rw [nI_clamp (by omega)]
    exact congrArg (upd xna t) (nI_add _ _)
  refine br_f (by decide) (br_f (by decide) (br_f (by decide) (br_f (by decide) (br_f (by decide) (br_f (by decide) (br_f (by decide) (br_f (by decide) (br_f (by decide) (br_f (by decide) (br_f (by decide) (br_f (by decide) (br_f (by decide) (br_f (by decide) (br_t (by decide) ?_))))))))))))))
  rw [nI_clamp (by omega), hbp]
  refine ⟨vp_in_nI hx (by omega), ?_⟩
  unfold wpX_callWithin
  dsimp only
  by_cases t5 : t = 5
  · exact br_f (by rw [t5]; decide) (kd t5)
  refine br_t (nI_lt (b := 6) (by omega) (by decide)) ?_
  rw [show nI p * 4 + nI o = nI (p * 4 + o) by rw [show nI p * 4 = nI (p * 4) from pk_mul p 4, nI_add], nI_clamp (by omega), hd]
  refine ⟨vp_in_nI (by omega) (by omega), nm_e ?_⟩
  refine x_clear (q := t + 1) (by omega) ?_
  dsimp only
  rw [nI_clamp (by omega), hnp]
  exact ⟨vp_in_nI (by omega) (by omega), nm_e (k (by omega))⟩
theorem x_op12 {t a p g o x np d : Nat} (ht : t < 5) (hp : p < 3) (hx : x < 4) (ha : a + 1 < 120) (hc : xim (p * 120 + a) = nI 12) (ho : xim (p * 120 + (a + 1)) = nI o) (ho4 : o < 4) (hbp : xbp x = nI p)
    (hd : xih (p * 4 + o) = nI (p * 120 + d)) (hdl : d < 120) (hnp : xim (p * 120 + d) = nI np) (hn2 : np ≤ 2) (hh : xhe t = nI (g + np)) (h6 : g + np ≤ 6) :
    ∃ he lo : Nat → Int32, he t = nI g ∧ (∀ l, l < t → he l = xhe l) ∧ ca_L t np (fun i => xsk (t * 6 + (g + i))) xlo lo ∧
      ∀ P : Int32 → SX → Prop, P (-1) (xrc, xbc, xfc, xrn, xra, xfi, xfp, xgn, nI (t + 1 + 1), xlr, xhm, xrp, xrA, xrB, xrC, xby, xhd, xst, xbg, xco, xen, xre, xld, xim, xic, xih, xif, xop, xbp, xbq, xsc, upd (upd xna t (nI (p * 120 + (a + 2)))) (t + 1) (nI (p * 120 + d + 3)), upd he (t + 1) 0, lo, xsk) → wpX_perform P (xrc, xbc, xfc, xrn, xra, xfi, xfp, xgn, nI (t + 1), xlr, xhm, xrp, xrA, xrB, xrC, xby, xhd, xst, xbg, xco, xen, xre, xld, xim, xic, xih, xif, xop, xbp, xbq, xsc, xna, xhe, xlo, xsk) (nI x) (nI (p * 120 + a)) := by
  have ix : ∀ i : Nat, nI (t + 1) * 5 + nI i = nI ((t + 1) * 5 + i) := fun i => by rw [show nI (t + 1) * 5 = nI ((t + 1) * 5) from pk_mul (t + 1) 5, nI_add]
  rcases (show np = 0 ∨ np = 1 ∨ np = 2 by omega) with rfl | rfl | rfl
  · refine ⟨xhe, _, hh, fun l _ => rfl, ca_L0, fun P K => x_12pre (by omega) hp hx ha hc ho ho4 hbp hd hdl hnp (fun z => absurd z (by omega)) fun _ => ⟨1, ?_⟩⟩
    rw [show nI 0 - 1 = -1 from by decide]
    exact br_t ba_m1lt (x_act (q := t + 1) (by omega) K)
  · refine ⟨_, _, pk_us (f := xhe), fun l hl => pk_un (by omega), ca_L1, fun P K => x_12pre (by omega) hp hx ha hc ho ho4 hbp hd hdl hnp (fun z => absurd z (by omega)) fun _ => ⟨2, ?_⟩⟩
    rw [show nI 1 - 1 = nI 0 from by decide]
    refine br_f (by decide) ?_
    refine x_pop (t := t) (by omega) (h := g) hh (by omega) ?_
    dsimp only
    rw [ix 0, nI_clamp (by omega)]
    exact ⟨vp_in_nI (by omega) (by omega), nm_e (nm_r (e' := -1) (by decide) (br_t ba_m1lt (x_act (q := t + 1) (by omega) K)))⟩
  · have hl2 : ∀ l, l < t → upd (upd xhe t (nI (g + 1))) t (nI g) l = xhe l := fun l hl => by rw [pk_un (by omega), pk_un (by omega)]
    refine ⟨_, _, pk_us, hl2, ca_L2, fun P K => x_12pre (by omega) hp hx ha hc ho ho4 hbp hd hdl hnp (fun z => absurd z (by omega)) fun _ => ⟨3, ?_⟩⟩
    rw [show nI 2 - 1 = nI 1 from by decide]
    refine br_f (by decide) ?_
    refine x_pop (t := t) (by omega) (h := g + 1) hh (by omega) ?_
    dsimp only
    rw [ix 1, nI_clamp (by omega)]
    refine ⟨vp_in_nI (by omega) (by omega), nm_e (nm_r (e' := nI 0) (by decide) (br_f (by decide) ?_))⟩
    refine x_pop (t := t) (by omega) (h := g) pk_us (by omega) ?_
    dsimp only
    rw [ix 0, nI_clamp (by omega)]
    exact ⟨vp_in_nI (by omega) (by omega), nm_e (nm_r (e' := -1) (by decide) (br_t ba_m1lt (x_act (q := t + 1) (by omega) K)))⟩
theorem ca_cp {t np : Nat} {v lo : Nat → Int32} (hn : np ≤ 5) : ca_L t np v lo (cp_f (zz_f lo ((t + 1) * 5) 5) ((t + 1) * 5) v np) := by
  refine ⟨fun l hl i hi => ?_, fun i hi => cp_in np hi, fun i h1 hi => ?_⟩
  · rw [cp_out np (by omega)]; exact zz_out 5 (by omega)
  · rw [cp_out np (by omega)]; exact zz_in 5 hi
theorem y_op12 {post : Int32 → SY → Prop} {t a p g o x f np : Nat} (ht : t < 6) (hp : p ≤ 3) (ha : a + 1 < 120) (hn : n ≤ 120) (hF : pl_Fmt (re_b M p) n) (ho : re_b M p (a + 1) = o) (hof : o < pl_nf (re_b M p)) (hnp : re_b M p (pl_hd (re_b M p) o) = np) (hn2 : np ≤ 2) (hat : yat t = nI (p * 120 + a)) (hh : yhi t = nI (g + np)) (h6 : g + np ≤ 6)
    (kd : t = 5 → post 3 (yru, ypl, ynu, yps, yfi, nI (t + 1), yre, yme, yrp, yrq, yrl, fun i => nI (M i), yle, ypr, ywa, ybp, ybq, ybo, ysc, yfn, yat, yhi, ylo, yen))
    (k : t < 5 →
      post (-1) (yru, ypl, ynu, yps, yfi, nI (t + 1 + 1), yre, yme, yrp, yrq, yrl, fun i => nI (M i), yle, ypr, ywa, ybp, ybq, ybo, ysc, upd yfn (t + 1) (nI o), upd (upd yat t (nI (p * 120 + (a + 2)))) (t + 1) (nI (p * 120 + pl_s (re_b M p) o)), upd (upd yhi t (nI g)) (t + 1) 0, cp_f (zz_f ylo ((t + 1) * 5) 5) ((t + 1) * 5) (fun i => yen (t * 7 + (g + i))) np, yen)) :
    wY_step_79 post (nI p) (nI x) (nI t) (nI (p * 120 + a)) (nI 12) yru ypl ynu yps yfi (nI (t + 1)) yre yme yrp yrq yrl (fun i => nI (M i)) yle ypr ywa ybp ybq ybo ysc yfn yat yhi ylo yen := by
  have he := pl_ef hF hof
  have hh' := pl_hf hF hof
  have h4 := hF.2.2.2.1
  have hi : ∀ i, i < o → pl_hd (re_b M p) i + 2 < 120 := by
    intro i h
    have := pl_hd_le (re_b M p) i o (by omega)
    omega
  obtain ⟨vv, v0, v1⟩ : ∃ vv : Int32, (g + np = 0 → vv = 0) ∧ ∀ q, g + np = q + 1 → vv = yen (t * 7 + q) := by
    by_cases e : g + np = 0
    · exact ⟨0, fun _ => rfl, fun q e' => absurd e (by omega)⟩
    · exact ⟨yen (t * 7 + (g + np - 1)), fun e' => absurd e' e, fun q e' => by rw [show g + np - 1 = q by omega]⟩
  obtain ⟨uu, u0, u1⟩ : ∃ uu : Int32, (g + np ≤ 1 → uu = 0) ∧ ∀ q, g + np = q + 2 → uu = yen (t * 7 + q) := by
    by_cases e : g + np ≤ 1
    · exact ⟨0, fun _ => rfl, fun q e' => absurd e (by omega)⟩
    · exact ⟨yen (t * 7 + (g + np - 2)), fun e' => absurd e' e, fun q e' => by rw [show g + np - 2 = q by omega]⟩
  refine y_front (c := 12) (o := o) (vv := vv) (uu := uu) ht hp (Or.inl ha) (by omega) (fun _ => ho) (fun q => absurd q (by decide)) hh h6 v0 v1 u0 u1 ?_
  refine br_f (by decide) (br_t (by decide) ?_)
  unfold wpY_invoke
  dsimp only
  by_cases t5 : t = 5
  · exact br_t (by rw [t5]; rfl) (kd t5)
  refine br_f (ba_ne (b := 6) (by omega) (by omega) (by omega)) ?_
  refine y_head hp (by omega) hF.1 hi ⟨vp_in_nI (by omega) (by omega), nm_r (e' := nI np) (by rw [y_rd hp (by omega), hnp]) (nm_r (nI_pred t) ?_)⟩
  have V : vp_in (nI t) 6 := vp_in_nI ht (by omega)
  rw [nI_clamp (by omega), hat, hh, show nI (p * 120 + a) + 2 = nI (p * 120 + (a + 2)) from nI_add _ 2, show nI (g + np) - nI np = nI g by rw [pk_sub (by omega)]; exact congrArg nI (by omega)]
  refine ⟨V, V, nm_e ⟨V, V, nm_e ?_⟩⟩
  refine y_enter (q := t + 1) (by omega) hp hn hF hof ⟨np + 1, ?_⟩
  have K := k (by omega)
  have yh : upd (upd yhi t (nI g)) (t + 1) 0 t = nI g := by rw [pk_un (by omega), pk_us]
  have L : ∀ d i, i + d = np →
      wY_invoke_66 post (nI np) (nI t) yru ypl ynu yps yfi (nI (t + 1 + 1)) yre yme (d + 1) (nI i) yrp yrq yrl (fun i => nI (M i)) yle ypr ywa ybp ybq ybo ysc (upd yfn (t + 1) (nI o)) (upd (upd yat t (nI (p * 120 + (a + 2)))) (t + 1) (nI (p * 120 + pl_s (re_b M p) o))) (upd (upd yhi t (nI g)) (t + 1) 0) (cp_f (zz_f ylo ((t + 1) * 5) 5) ((t + 1) * 5) (fun i => yen (t * 7 + (g + i))) i) yen := by
    intro d
    induction d with
    | zero =>
      intro i hi
      have : i = np := by omega
      subst this
      exact br_t (nI_le (Nat.le_refl _) (by omega)) K
    | succ d ih =>
      intro i hi
      have e1 : nI t * 7 + nI g + nI i = nI (t * 7 + (g + i)) := by
        rw [show nI t * 7 = nI (t * 7) from pk_mul t 7, nI_add, nI_add]
        exact congrArg nI (by omega)
      have e2 : nI (t + 1 + 1) * 5 - 5 + nI i = nI ((t + 1) * 5 + i) := by
        rw [show nI (t + 1 + 1) * 5 = nI ((t + 1 + 1) * 5) from pk_mul _ 5, show nI ((t + 1 + 1) * 5) - 5 = nI ((t + 1 + 1) * 5 - 5) from pk_sub (b := 5) (by omega), nI_add]
        exact congrArg nI (by omega)
      unfold wY_invoke_66
      rw [nI_clamp (show t < 2 ^ 31 by omega), yh, e1, e2, nI_clamp (by omega), nI_clamp (by omega)]
      exact br_f (nI_ge (by omega) (by omega)) ⟨V, vp_in_nI (by omega) (by omega), vp_in_nI (by omega) (by omega), nm_e (nm_r (nI_1 i) (ih (i + 1) (by omega)))⟩
  exact L np 0 (by omega)
end D4
