section D1
variable {r n : Nat} {pt M b : Nat → Nat} {xrc xbc xfc xrn xra xfi xfp xgn xac xlr : Int32} {xhm : Int64} {xrp xrA xrB xrC xby xhd xst xbg xco xen xre xld xim xic xih xif xop xbp xbq xsc xna xhe xlo xsk : Nat → Int32} {yru ypl ynu yps yfi yac yre : Int32} {yme : Int64} {yrp yrq yrl yby yle ypr ywa ybp ybq ybo ysc yfn yat yhi ylo yen : Nat → Int32}
/-! the component's machine, one instruction at a time: t the newest activation, h its height -/
theorem x_push {post : SX → Prop} {t h : Nat} {v : Int32} (ht : t < 6) (hh : xhe t = nI h) (h6 : h < 6) (k : post (xrc, xbc, xfc, xrn, xra, xfi, xfp, xgn, nI (t + 1), xlr, xhm, xrp, xrA, xrB, xrC, xby, xhd, xst, xbg, xco, xen, xre, xld, xim, xic, xih, xif, xop, xbp, xbq, xsc, xna, upd xhe t (nI (h + 1)), xlo, upd xsk (t * 6 + h) v)) : wpX_push post (xrc, xbc, xfc, xrn, xra, xfi, xfp, xgn, nI (t + 1), xlr, xhm, xrp, xrA, xrB, xrC, xby, xhd, xst, xbg, xco, xen, xre, xld, xim, xic, xih, xif, xop, xbp, xbq, xsc, xna, xhe, xlo, xsk) v := by
  have V : vp_in (nI t) 6 := vp_in_nI ht (by omega)
  have e : nI t * 6 + nI h = nI (t * 6 + h) := by rw [show nI t * 6 = nI (t * 6) from pk_mul t 6, nI_add]
  unfold wpX_push
  dsimp only
  refine nm_r (nI_pred t) ⟨V, ?_⟩
  rw [nI_clamp (by omega), hh]
  refine br_f (nI_ge (b := 6) h6 (by decide)) ⟨V, by rw [e]; exact vp_in_nI (by omega) (by omega), nm_r (by rw [e, nI_clamp (by omega)]) ⟨V, V, nm_r (by rw [nI_1]) k⟩⟩
theorem x_pop {post : Int32 → SX → Prop} {t h : Nat} (ht : t < 6) (hh : xhe t = nI (h + 1)) (h6 : h < 6) (k : post (xsk (t * 6 + h)) (xrc, xbc, xfc, xrn, xra, xfi, xfp, xgn, nI (t + 1), xlr, xhm, xrp, xrA, xrB, xrC, xby, xhd, xst, xbg, xco, xen, xre, xld, xim, xic, xih, xif, xop, xbp, xbq, xsc, xna, upd xhe t (nI h), xlo, xsk)) : wpX_pop post (xrc, xbc, xfc, xrn, xra, xfi, xfp, xgn, nI (t + 1), xlr, xhm, xrp, xrA, xrB, xrC, xby, xhd, xst, xbg, xco, xen, xre, xld, xim, xic, xih, xif, xop, xbp, xbq, xsc, xna, xhe, xlo, xsk) := by
  have V : vp_in (nI t) 6 := vp_in_nI ht (by omega)
  have e : nI t * 6 + nI h = nI (t * 6 + h) := by rw [show nI t * 6 = nI (t * 6) from pk_mul t 6, nI_add]
  unfold wpX_pop
  dsimp only
  refine nm_r (nI_pred t) ⟨V, ?_⟩
  rw [nI_clamp (by omega), hh, nI_pred]
  refine br_f (nI_ne0 (by omega) (by omega)) ⟨V, V, nm_e ⟨V, ?_⟩⟩
  rw [pk_us, e, nI_clamp (by omega)]
  exact ⟨vp_in_nI (by omega) (by omega), k⟩
/-- the arithmetic -/
def al_v (c : Nat) (f s : Int32) : Int32 := if c = 3 then f + s else if c = 4 then f - s else if c = 5 then f * s else if c = 6 then f / s else if s ≤ f then 0 else 1
theorem x_calc {post : Int32 → SX → Prop} {t h c : Nat} (ht : t < 6) (hc : 3 ≤ c ∧ c ≤ 7) (hh : xhe t = nI (h + 2)) (h6 : h < 5)
    (kd : c = 6 → xsk (t * 6 + (h + 1)) = 0 → post 2 (xrc, xbc, xfc, xrn, xra, xfi, xfp, xgn, nI (t + 1), xlr, xhm, xrp, xrA, xrB, xrC, xby, xhd, xst, xbg, xco, xen, xre, xld, xim, xic, xih, xif, xop, xbp, xbq, xsc, xna, upd (upd xhe t (nI (h + 1))) t (nI h), xlo, xsk))
    (k : ¬ (c = 6 ∧ xsk (t * 6 + (h + 1)) = 0) → ∀ v, v = al_v c (xsk (t * 6 + h)) (xsk (t * 6 + (h + 1))) → post (-1) (xrc, xbc, xfc, xrn, xra, xfi, xfp, xgn, nI (t + 1), xlr, xhm, xrp, xrA, xrB, xrC, xby, xhd, xst, xbg, xco, xen, xre, xld, xim, xic, xih, xif, xop, xbp, xbq, xsc, xna, upd (upd (upd xhe t (nI (h + 1))) t (nI h)) t (nI (h + 1)), xlo, upd xsk (t * 6 + h) v)) :
    wpX_calculate post (xrc, xbc, xfc, xrn, xra, xfi, xfp, xgn, nI (t + 1), xlr, xhm, xrp, xrA, xrB, xrC, xby, xhd, xst, xbg, xco, xen, xre, xld, xim, xic, xih, xif, xop, xbp, xbq, xsc, xna, xhe, xlo, xsk) (nI c) := by
  unfold wpX_calculate
  dsimp only
  refine x_pop ht hh (by omega) ?_
  refine x_pop ht (h := h) pk_us (by omega) ?_
  have F : ∀ v, post (-1) (xrc, xbc, xfc, xrn, xra, xfi, xfp, xgn, nI (t + 1), xlr, xhm, xrp, xrA, xrB, xrC, xby, xhd, xst, xbg, xco, xen, xre, xld, xim, xic, xih, xif, xop, xbp, xbq, xsc, xna, upd (upd (upd xhe t (nI (h + 1))) t (nI h)) t (nI (h + 1)), xlo, upd xsk (t * 6 + h) v) → wX_calculate_100 post v xrc xbc xfc xrn xra xfi xfp xgn (nI (t + 1)) xlr xhm xrp xrA xrB xrC xby xhd xst xbg xco xen xre xld xim xic xih xif xop xbp xbq xsc xna (upd (upd xhe t (nI (h + 1))) t (nI h)) xlo xsk := by
    intro v q
    exact x_push ht pk_us (by omega) q
  have G : ¬ (c = 6 ∧ xsk (t * 6 + (h + 1)) = 0) → wX_calculate_22 post (nI c) (xsk (t * 6 + (h + 1))) (xsk (t * 6 + h)) xrc xbc xfc xrn xra xfi xfp xgn (nI (t + 1)) xlr xhm xrp xrA xrB xrC xby xhd xst xbg xco xen xre xld xim xic xih xif xop xbp xbq xsc xna (upd (upd xhe t (nI (h + 1))) t (nI h)) xlo xsk := by
    intro nz
    rcases (show c = 3 ∨ c = 4 ∨ c = 5 ∨ c = 6 ∨ c = 7 by omega) with rfl | rfl | rfl | rfl | rfl
    · exact br_f (by decide) (br_f (by decide) (br_t (by decide) (nm_e (F _ (k nz _ rfl)))))
    · exact br_f (by decide) (br_f (by decide) (br_f (by decide) (br_t (by decide) (nm_e (F _ (k nz _ rfl))))))
    · exact br_f (by decide) (br_f (by decide) (br_f (by decide) (br_f (by decide) (br_t (by decide) (nm_e (F _ (k nz _ rfl)))))))
    · exact br_f (by decide) (br_f (by decide) (br_f (by decide) (br_f (by decide) (br_f (by decide) (br_t (by decide) ⟨fun z => nz ⟨rfl, z⟩, nm_e (F _ (k nz _ rfl))⟩)))))
    · refine br_f (by decide) (br_t (by decide) (br_c (fun z => F _ (k nz _ ?_)) fun z => F _ (k nz _ ?_)))
      · show 0 = if _ then (0 : Int32) else 1
        rw [if_pos z]
      · show 1 = if _ then (0 : Int32) else 1
        rw [if_neg z]
  refine pk_eq c 6 (fun e => br_c (fun z => kd e z) fun z => G fun q => z q.2) fun e => G fun q => e q.1

theorem x_op0 {post : Int32 → SX → Prop} {t a p h o x : Nat} (ht : t < 6) (hp : p < 3) (hx : x < 4) (ha : a + 1 < 120) (hc : xim (p * 120 + a) = nI 0) (ho : xim (p * 120 + (a + 1)) = nI o) (hh : xhe t = nI h) (h6 : h < 6)
    (k : post (-1) (xrc, xbc, xfc, xrn, xra, xfi, xfp, xgn, nI (t + 1), xlr, xhm, xrp, xrA, xrB, xrC, xby, xhd, xst, xbg, xco, xen, xre, xld, xim, xic, xih, xif, xop, xbp, xbq, xsc, upd xna t (nI (p * 120 + (a + 2))), upd xhe t (nI (h + 1)), xlo, upd xsk (t * 6 + h) (nI o).toInt8.toInt32)) : wpX_perform post (xrc, xbc, xfc, xrn, xra, xfi, xfp, xgn, nI (t + 1), xlr, xhm, xrp, xrA, xrB, xrC, xby, xhd, xst, xbg, xco, xen, xre, xld, xim, xic, xih, xif, xop, xbp, xbq, xsc, xna, xhe, xlo, xsk) (nI x) (nI (p * 120 + a)) := by
  unfold wpX_perform
  dsimp only
  rw [nI_clamp (by omega), hc]
  refine ⟨vp_in_nI (by omega) (by omega), nm_e ?_⟩
  refine x_hasOp (c := 0) (by omega) (fun _ => br_f ba_10 ?_) fun q => absurd q (by decide)
  rw [show nI (p * 120 + a) + 1 = nI (p * 120 + (a + 1)) from nI_1 _, nI_clamp (by omega), ho]
  refine ⟨vp_in_nI (by omega) (by omega), ?_⟩
  refine nm_r (nI_pred t) (x_sizeOf (c := 0) (by omega) ⟨vp_in_nI ht (by omega), nm_r (e' := upd xna t (nI (p * 120 + (a + 2)))) ?_ ?_⟩)
  · rw [nI_clamp (by omega)]
    exact congrArg (upd xna t) (nI_add _ _)
  refine br_f (by decide) (br_f (by decide) (br_t (by decide) ?_))
  exact x_push ht hh h6 k
theorem x_op1 {post : Int32 → SX → Prop} {t a p h o x : Nat} (ht : t < 6) (hp : p < 3) (hx : x < 4) (ha : a + 1 < 120) (hc : xim (p * 120 + a) = nI 1) (ho : xim (p * 120 + (a + 1)) = nI o) (hh : xhe t = nI h) (h6 : h < 6) (ho5 : o < 5)
    (k : post (-1) (xrc, xbc, xfc, xrn, xra, xfi, xfp, xgn, nI (t + 1), xlr, xhm, xrp, xrA, xrB, xrC, xby, xhd, xst, xbg, xco, xen, xre, xld, xim, xic, xih, xif, xop, xbp, xbq, xsc, upd xna t (nI (p * 120 + (a + 2))), upd xhe t (nI (h + 1)), xlo, upd xsk (t * 6 + h) (xlo (t * 5 + o)))) : wpX_perform post (xrc, xbc, xfc, xrn, xra, xfi, xfp, xgn, nI (t + 1), xlr, xhm, xrp, xrA, xrB, xrC, xby, xhd, xst, xbg, xco, xen, xre, xld, xim, xic, xih, xif, xop, xbp, xbq, xsc, xna, xhe, xlo, xsk) (nI x) (nI (p * 120 + a)) := by
  unfold wpX_perform
  dsimp only
  rw [nI_clamp (by omega), hc]
  refine ⟨vp_in_nI (by omega) (by omega), nm_e ?_⟩
  refine x_hasOp (c := 1) (by omega) (fun _ => br_f ba_10 ?_) fun q => absurd q (by decide)
  rw [show nI (p * 120 + a) + 1 = nI (p * 120 + (a + 1)) from nI_1 _, nI_clamp (by omega), ho]
  refine ⟨vp_in_nI (by omega) (by omega), ?_⟩
  refine nm_r (nI_pred t) (x_sizeOf (c := 1) (by omega) ⟨vp_in_nI ht (by omega), nm_r (e' := upd xna t (nI (p * 120 + (a + 2)))) ?_ ?_⟩)
  · rw [nI_clamp (by omega)]
    exact congrArg (upd xna t) (nI_add _ _)
  refine br_f (by decide) (br_f (by decide) (br_f (by decide) (br_t (by decide) ?_)))
  rw [show nI t * 5 + nI o = nI (t * 5 + o) by rw [show nI t * 5 = nI (t * 5) from pk_mul t 5, nI_add], nI_clamp (by omega)]
  exact ⟨vp_in_nI (by omega) (by omega), x_push ht hh h6 k⟩
theorem x_op2 {post : Int32 → SX → Prop} {t a p h o x : Nat} (ht : t < 6) (hp : p < 3) (hx : x < 4) (ha : a + 1 < 120) (hc : xim (p * 120 + a) = nI 2) (ho : xim (p * 120 + (a + 1)) = nI o) (hh : xhe t = nI (h + 1)) (h6 : h < 6) (ho5 : o < 5)
    (k : post (-1) (xrc, xbc, xfc, xrn, xra, xfi, xfp, xgn, nI (t + 1), xlr, xhm, xrp, xrA, xrB, xrC, xby, xhd, xst, xbg, xco, xen, xre, xld, xim, xic, xih, xif, xop, xbp, xbq, xsc, upd xna t (nI (p * 120 + (a + 2))), upd xhe t (nI h), upd xlo (t * 5 + o) (xsk (t * 6 + h)), xsk)) : wpX_perform post (xrc, xbc, xfc, xrn, xra, xfi, xfp, xgn, nI (t + 1), xlr, xhm, xrp, xrA, xrB, xrC, xby, xhd, xst, xbg, xco, xen, xre, xld, xim, xic, xih, xif, xop, xbp, xbq, xsc, xna, xhe, xlo, xsk) (nI x) (nI (p * 120 + a)) := by
  unfold wpX_perform
  dsimp only
  rw [nI_clamp (by omega), hc]
  refine ⟨vp_in_nI (by omega) (by omega), nm_e ?_⟩
  refine x_hasOp (c := 2) (by omega) (fun _ => br_f ba_10 ?_) fun q => absurd q (by decide)
  rw [show nI (p * 120 + a) + 1 = nI (p * 120 + (a + 1)) from nI_1 _, nI_clamp (by omega), ho]
  refine ⟨vp_in_nI (by omega) (by omega), ?_⟩
  refine nm_r (nI_pred t) (x_sizeOf (c := 2) (by omega) ⟨vp_in_nI ht (by omega), nm_r (e' := upd xna t (nI (p * 120 + (a + 2)))) ?_ ?_⟩)
  · rw [nI_clamp (by omega)]
    exact congrArg (upd xna t) (nI_add _ _)
  refine br_f (by decide) (br_f (by decide) (br_f (by decide) (br_f (by decide) (br_t (by decide) ?_))))
  refine x_pop ht hh h6 ?_
  rw [show nI t * 5 + nI o = nI (t * 5 + o) by rw [show nI t * 5 = nI (t * 5) from pk_mul t 5, nI_add], nI_clamp (by omega)]
  exact ⟨vp_in_nI (by omega) (by omega), nm_e k⟩
theorem x_op3 {post : Int32 → SX → Prop} {t a p h o x : Nat} (ht : t < 6) (hp : p < 3) (hx : x < 4) (ha : a + 1 < 120) (hc : xim (p * 120 + a) = nI 3) (hh : xhe t = nI (h + 2)) (h6 : h < 5)
    (k : ¬ (3 = 6 ∧ xsk (t * 6 + (h + 1)) = 0) → ∀ v, v = al_v 3 (xsk (t * 6 + h)) (xsk (t * 6 + (h + 1))) → post (-1) (xrc, xbc, xfc, xrn, xra, xfi, xfp, xgn, nI (t + 1), xlr, xhm, xrp, xrA, xrB, xrC, xby, xhd, xst, xbg, xco, xen, xre, xld, xim, xic, xih, xif, xop, xbp, xbq, xsc, upd xna t (nI (p * 120 + (a + 1))), upd (upd (upd xhe t (nI (h + 1))) t (nI h)) t (nI (h + 1)), xlo, upd xsk (t * 6 + h) v)) : wpX_perform post (xrc, xbc, xfc, xrn, xra, xfi, xfp, xgn, nI (t + 1), xlr, xhm, xrp, xrA, xrB, xrC, xby, xhd, xst, xbg, xco, xen, xre, xld, xim, xic, xih, xif, xop, xbp, xbq, xsc, xna, xhe, xlo, xsk) (nI x) (nI (p * 120 + a)) := by
  unfold wpX_perform
  dsimp only
  rw [nI_clamp (by omega), hc]
  refine ⟨vp_in_nI (by omega) (by omega), nm_e ?_⟩
  refine x_hasOp (c := 3) (by omega) (fun q => absurd q (by decide)) fun _ => br_t rfl ?_
  refine nm_r (nI_pred t) (x_sizeOf (c := 3) (by omega) ⟨vp_in_nI ht (by omega), nm_r (e' := upd xna t (nI (p * 120 + (a + 1)))) ?_ ?_⟩)
  · rw [nI_clamp (by omega)]
    exact congrArg (upd xna t) (nI_add _ _)
  refine br_f (by decide) (br_f (by decide) (br_f (by decide) (br_f (by decide) (br_f (by decide) (br_t (by decide) ?_)))))
  exact x_calc ht (by omega) hh h6 (fun z => absurd z (by decide)) k
theorem x_op4 {post : Int32 → SX → Prop} {t a p h o x : Nat} (ht : t < 6) (hp : p < 3) (hx : x < 4) (ha : a + 1 < 120) (hc : xim (p * 120 + a) = nI 4) (hh : xhe t = nI (h + 2)) (h6 : h < 5)
    (k : ¬ (4 = 6 ∧ xsk (t * 6 + (h + 1)) = 0) → ∀ v, v = al_v 4 (xsk (t * 6 + h)) (xsk (t * 6 + (h + 1))) → post (-1) (xrc, xbc, xfc, xrn, xra, xfi, xfp, xgn, nI (t + 1), xlr, xhm, xrp, xrA, xrB, xrC, xby, xhd, xst, xbg, xco, xen, xre, xld, xim, xic, xih, xif, xop, xbp, xbq, xsc, upd xna t (nI (p * 120 + (a + 1))), upd (upd (upd xhe t (nI (h + 1))) t (nI h)) t (nI (h + 1)), xlo, upd xsk (t * 6 + h) v)) : wpX_perform post (xrc, xbc, xfc, xrn, xra, xfi, xfp, xgn, nI (t + 1), xlr, xhm, xrp, xrA, xrB, xrC, xby, xhd, xst, xbg, xco, xen, xre, xld, xim, xic, xih, xif, xop, xbp, xbq, xsc, xna, xhe, xlo, xsk) (nI x) (nI (p * 120 + a)) := by
  unfold wpX_perform
  dsimp only
  rw [nI_clamp (by omega), hc]
  refine ⟨vp_in_nI (by omega) (by omega), nm_e ?_⟩
  refine x_hasOp (c := 4) (by omega) (fun q => absurd q (by decide)) fun _ => br_t rfl ?_
  refine nm_r (nI_pred t) (x_sizeOf (c := 4) (by omega) ⟨vp_in_nI ht (by omega), nm_r (e' := upd xna t (nI (p * 120 + (a + 1)))) ?_ ?_⟩)
  · rw [nI_clamp (by omega)]
    exact congrArg (upd xna t) (nI_add _ _)
  refine br_f (by decide) (br_f (by decide) (br_f (by decide) (br_f (by decide) (br_f (by decide) (br_f (by decide) (br_t (by decide) ?_))))))
  exact x_calc ht (by omega) hh h6 (fun z => absurd z (by decide)) k
theorem x_op5 {post : Int32 → SX → Prop} {t a p h o x : Nat} (ht : t < 6) (hp : p < 3) (hx : x < 4) (ha : a + 1 < 120) (hc : xim (p * 120 + a) = nI 5) (hh : xhe t = nI (h + 2)) (h6 : h < 5)
    (k : ¬ (5 = 6 ∧ xsk (t * 6 + (h + 1)) = 0) → ∀ v, v = al_v 5 (xsk (t * 6 + h)) (xsk (t * 6 + (h + 1))) → post (-1) (xrc, xbc, xfc, xrn, xra, xfi, xfp, xgn, nI (t + 1), xlr, xhm, xrp, xrA, xrB, xrC, xby, xhd, xst, xbg, xco, xen, xre, xld, xim, xic, xih, xif, xop, xbp, xbq, xsc, upd xna t (nI (p * 120 + (a + 1))), upd (upd (upd xhe t (nI (h + 1))) t (nI h)) t (nI (h + 1)), xlo, upd xsk (t * 6 + h) v)) : wpX_perform post (xrc, xbc, xfc, xrn, xra, xfi, xfp, xgn, nI (t + 1), xlr, xhm, xrp, xrA, xrB, xrC, xby, xhd, xst, xbg, xco, xen, xre, xld, xim, xic, xih, xif, xop, xbp, xbq, xsc, xna, xhe, xlo, xsk) (nI x) (nI (p * 120 + a)) := by
  unfold wpX_perform
  dsimp only
  rw [nI_clamp (by omega), hc]
  refine ⟨vp_in_nI (by omega) (by omega), nm_e ?_⟩
  refine x_hasOp (c := 5) (by omega) (fun q => absurd q (by decide)) fun _ => br_t rfl ?_
  refine nm_r (nI_pred t) (x_sizeOf (c := 5) (by omega) ⟨vp_in_nI ht (by omega), nm_r (e' := upd xna t (nI (p * 120 + (a + 1)))) ?_ ?_⟩)
  · rw [nI_clamp (by omega)]
    exact congrArg (upd xna t) (nI_add _ _)
  refine br_f (by decide) (br_f (by decide) (br_f (by decide) (br_f (by decide) (br_f (by decide) (br_f (by decide) (br_f (by decide) (br_t (by decide) ?_)))))))
  exact x_calc ht (by omega) hh h6 (fun z => absurd z (by decide)) k
theorem x_op6 {post : Int32 → SX → Prop} {t a p h o x : Nat} (ht : t < 6) (hp : p < 3) (hx : x < 4) (ha : a + 1 < 120) (hc : xim (p * 120 + a) = nI 6) (hh : xhe t = nI (h + 2)) (h6 : h < 5)
    (kd : xsk (t * 6 + (h + 1)) = 0 → post 2 (xrc, xbc, xfc, xrn, xra, xfi, xfp, xgn, nI (t + 1), xlr, xhm, xrp, xrA, xrB, xrC, xby, xhd, xst, xbg, xco, xen, xre, xld, xim, xic, xih, xif, xop, xbp, xbq, xsc, upd xna t (nI (p * 120 + (a + 1))), upd (upd xhe t (nI (h + 1))) t (nI h), xlo, xsk)) (k : ¬ (6 = 6 ∧ xsk (t * 6 + (h + 1)) = 0) → ∀ v, v = al_v 6 (xsk (t * 6 + h)) (xsk (t * 6 + (h + 1))) → post (-1) (xrc, xbc, xfc, xrn, xra, xfi, xfp, xgn, nI (t + 1), xlr, xhm, xrp, xrA, xrB, xrC, xby, xhd, xst, xbg, xco, xen, xre, xld, xim, xic, xih, xif, xop, xbp, xbq, xsc, upd xna t (nI (p * 120 + (a + 1))), upd (upd (upd xhe t (nI (h + 1))) t (nI h)) t (nI (h + 1)), xlo, upd xsk (t * 6 + h) v)) : wpX_perform post (xrc, xbc, xfc, xrn, xra, xfi, xfp, xgn, nI (t + 1), xlr, xhm, xrp, xrA, xrB, xrC, xby, xhd, xst, xbg, xco, xen, xre, xld, xim, xic, xih, xif, xop, xbp, xbq, xsc, xna, xhe, xlo, xsk) (nI x) (nI (p * 120 + a)) := by
  unfold wpX_perform
  dsimp only
  rw [nI_clamp (by omega), hc]
  refine ⟨vp_in_nI (by omega) (by omega), nm_e ?_⟩
  refine x_hasOp (c := 6) (by omega) (fun q => absurd q (by decide)) fun _ => br_t rfl ?_
  refine nm_r (nI_pred t) (x_sizeOf (c := 6) (by omega) ⟨vp_in_nI ht (by omega), nm_r (e' := upd xna t (nI (p * 120 + (a + 1)))) ?_ ?_⟩)
  · rw [nI_clamp (by omega)]
    exact congrArg (upd xna t) (nI_add _ _)
  refine br_f (by decide) (br_f (by decide) (br_f (by decide) (br_f (by decide) (br_f (by decide) (br_f (by decide) (br_f (by decide) (br_f (by decide) (br_t (by decide) ?_))))))))
  exact x_calc ht (by omega) hh h6 (fun _ z => kd z) k
theorem x_op7 {post : Int32 → SX → Prop} {t a p h o x : Nat} (ht : t < 6) (hp : p < 3) (hx : x < 4) (ha : a + 1 < 120) (hc : xim (p * 120 + a) = nI 7) (hh : xhe t = nI (h + 2)) (h6 : h < 5)
    (k : ¬ (7 = 6 ∧ xsk (t * 6 + (h + 1)) = 0) → ∀ v, v = al_v 7 (xsk (t * 6 + h)) (xsk (t * 6 + (h + 1))) → post (-1) (xrc, xbc, xfc, xrn, xra, xfi, xfp, xgn, nI (t + 1), xlr, xhm, xrp, xrA, xrB, xrC, xby, xhd, xst, xbg, xco, xen, xre, xld, xim, xic, xih, xif, xop, xbp, xbq, xsc, upd xna t (nI (p * 120 + (a + 1))), upd (upd (upd xhe t (nI (h + 1))) t (nI h)) t (nI (h + 1)), xlo, upd xsk (t * 6 + h) v)) : wpX_perform post (xrc, xbc, xfc, xrn, xra, xfi, xfp, xgn, nI (t + 1), xlr, xhm, xrp, xrA, xrB, xrC, xby, xhd, xst, xbg, xco, xen, xre, xld, xim, xic, xih, xif, xop, xbp, xbq, xsc, xna, xhe, xlo, xsk) (nI x) (nI (p * 120 + a)) := by
  unfold wpX_perform
  dsimp only
  rw [nI_clamp (by omega), hc]
  refine ⟨vp_in_nI (by omega) (by omega), nm_e ?_⟩
  refine x_hasOp (c := 7) (by omega) (fun q => absurd q (by decide)) fun _ => br_t rfl ?_
  refine nm_r (nI_pred t) (x_sizeOf (c := 7) (by omega) ⟨vp_in_nI ht (by omega), nm_r (e' := upd xna t (nI (p * 120 + (a + 1)))) ?_ ?_⟩)
  · rw [nI_clamp (by omega)]
    exact congrArg (upd xna t) (nI_add _ _)
  refine br_f (by decide) (br_f (by decide) (br_f (by decide) (br_f (by decide) (br_f (by decide) (br_f (by decide) (br_f (by decide) (br_f (by decide) (br_f (by decide) (br_t (by decide) ?_)))))))))
  exact x_calc ht (by omega) hh h6 (fun z => absurd z (by decide)) k
theorem x_op8 {post : Int32 → SX → Prop} {t a p h o x : Nat} (ht : t < 6) (hp : p < 3) (hx : x < 4) (ha : a + 1 < 120) (hc : xim (p * 120 + a) = nI 8) (hh : xhe t = nI (h + 1)) (h6 : h < 5)
    (k : post (-1) (xrc, xbc, xfc, xrn, xra, xfi, xfp, xgn, nI (t + 1), xlr, xhm, xrp, xrA, xrB, xrC, xby, xhd, xst, xbg, xco, xen, xre, xld, xim, xic, xih, xif, xop, xbp, xbq, xsc, upd xna t (nI (p * 120 + (a + 1))), upd (upd (upd xhe t (nI h)) t (nI (h + 1))) t (nI (h + 1 + 1)), xlo, upd (upd xsk (t * 6 + h) (xsk (t * 6 + h))) (t * 6 + (h + 1)) (xsk (t * 6 + h)))) : wpX_perform post (xrc, xbc, xfc, xrn, xra, xfi, xfp, xgn, nI (t + 1), xlr, xhm, xrp, xrA, xrB, xrC, xby, xhd, xst, xbg, xco, xen, xre, xld, xim, xic, xih, xif, xop, xbp, xbq, xsc, xna, xhe, xlo, xsk) (nI x) (nI (p * 120 + a)) := by
  unfold wpX_perform
  dsimp only
  rw [nI_clamp (by omega), hc]
  refine ⟨vp_in_nI (by omega) (by omega), nm_e ?_⟩
  refine x_hasOp (c := 8) (by omega) (fun q => absurd q (by decide)) fun _ => br_t rfl ?_
  refine nm_r (nI_pred t) (x_sizeOf (c := 8) (by omega) ⟨vp_in_nI ht (by omega), nm_r (e' := upd xna t (nI (p * 120 + (a + 1)))) ?_ ?_⟩)
  · rw [nI_clamp (by omega)]
    exact congrArg (upd xna t) (nI_add _ _)
  refine br_f (by decide) (br_f (by decide) (br_f (by decide) (br_f (by decide) (br_f (by decide) (br_f (by decide) (br_f (by decide) (br_f (by decide) (br_f (by decide) (br_f (by decide) (br_t (by decide) ?_))))))))))
  refine x_pop ht hh (by omega) ?_
  refine x_push ht (h := h) pk_us (by omega) ?_
  exact x_push ht (h := h + 1) pk_us (by omega) k
theorem x_op9 {post : Int32 → SX → Prop} {t a p h o x : Nat} (ht : t < 6) (hp : p < 3) (hx : x < 4) (ha : a + 1 < 120) (hc : xim (p * 120 + a) = nI 9) (hh : xhe t = nI (h + 1)) (h6 : h < 6)
    (k : post (-1) (xrc, xbc, xfc, xrn, xra, xfi, xfp, xgn, nI (t + 1), xlr, xhm, xrp, xrA, xrB, xrC, xby, xhd, xst, xbg, xco, xen, xre, xld, xim, xic, xih, xif, xop, xbp, xbq, xsc, upd xna t (nI (p * 120 + (a + 1))), upd xhe t (nI h), xlo, xsk)) : wpX_perform post (xrc, xbc, xfc, xrn, xra, xfi, xfp, xgn, nI (t + 1), xlr, xhm, xrp, xrA, xrB, xrC, xby, xhd, xst, xbg, xco, xen, xre, xld, xim, xic, xih, xif, xop, xbp, xbq, xsc, xna, xhe, xlo, xsk) (nI x) (nI (p * 120 + a)) := by
  unfold wpX_perform
  dsimp only
  rw [nI_clamp (by omega), hc]
  refine ⟨vp_in_nI (by omega) (by omega), nm_e ?_⟩
  refine x_hasOp (c := 9) (by omega) (fun q => absurd q (by decide)) fun _ => br_t rfl ?_
  refine nm_r (nI_pred t) (x_sizeOf (c := 9) (by omega) ⟨vp_in_nI ht (by omega), nm_r (e' := upd xna t (nI (p * 120 + (a + 1)))) ?_ ?_⟩)
  · rw [nI_clamp (by omega)]
    exact congrArg (upd xna t) (nI_add _ _)
  refine br_f (by decide) (br_f (by decide) (br_f (by decide) (br_f (by decide) (br_f (by decide) (br_f (by decide) (br_f (by decide) (br_f (by decide) (br_f (by decide) (br_f (by decide) (br_f (by decide) (br_t (by decide) ?_)))))))))))
  exact x_pop ht hh h6 k
theorem x_targetI {post : Int32 → Prop} {p a o j : Nat} (hp : p < 3) (ha : a + 1 < 120) (ho : xim (p * 120 + (a + 1)) = nI o) (hv : o < 256) (hj : ((a : Nat) : Int) + 2 + pl_sg o = (j : Int)) (hjl : j < 120) (k : post (nI (p * 120 + j))) : wpX_jumpTarget__image post (xrc, xbc, xfc, xrn, xra, xfi, xfp, xgn, xac, xlr, xhm, xrp, xrA, xrB, xrC, xby, xhd, xst, xbg, xco, xen, xre, xld, xim, xic, xih, xif, xop, xbp, xbq, xsc, xna, xhe, xlo, xsk) (nI (p * 120 + a)) := by
  unfold wpX_jumpTarget__image
  dsimp only
  rw [show nI (p * 120 + a) + 1 = nI (p * 120 + (a + 1)) from nI_1 _, nI_clamp (by omega), ho]
  refine ⟨vp_in_nI (by omega) (by omega), ?_⟩
  rw [tg_n (T := nI (p * 120 + a) + 2 + (nI o).toInt8.toInt32) (j := p * 120 + j) (by rw [tg_T (by omega) hv]; omega) (by omega)]
  exact k
theorem x_op10 {post : Int32 → SX → Prop} {t a p h o x : Nat} (ht : t < 6) (hp : p < 3) (hx : x < 4) (ha : a + 1 < 120) (hc : xim (p * 120 + a) = nI 10) (ho : xim (p * 120 + (a + 1)) = nI o) (hv : o < 256) {j : Nat} (hj : ((a : Nat) : Int) + 2 + pl_sg o = (j : Int)) (hjl : j < 120)
    (k : post (-1) (xrc, xbc, xfc, xrn, xra, xfi, xfp, xgn, nI (t + 1), xlr, xhm, xrp, xrA, xrB, xrC, xby, xhd, xst, xbg, xco, xen, xre, xld, xim, xic, xih, xif, xop, xbp, xbq, xsc, upd (upd xna t (nI (p * 120 + (a + 2)))) t (nI (p * 120 + j)), xhe, xlo, xsk)) : wpX_perform post (xrc, xbc, xfc, xrn, xra, xfi, xfp, xgn, nI (t + 1), xlr, xhm, xrp, xrA, xrB, xrC, xby, xhd, xst, xbg, xco, xen, xre, xld, xim, xic, xih, xif, xop, xbp, xbq, xsc, xna, xhe, xlo, xsk) (nI x) (nI (p * 120 + a)) := by
  unfold wpX_perform
  dsimp only
  rw [nI_clamp (by omega), hc]
  refine ⟨vp_in_nI (by omega) (by omega), nm_e ?_⟩
  refine x_hasOp (c := 10) (by omega) (fun _ => br_f ba_10 ?_) fun q => absurd q (by decide)
  rw [show nI (p * 120 + a) + 1 = nI (p * 120 + (a + 1)) from nI_1 _, nI_clamp (by omega), ho]
  refine ⟨vp_in_nI (by omega) (by omega), ?_⟩
  refine nm_r (nI_pred t) (x_sizeOf (c := 10) (by omega) ⟨vp_in_nI ht (by omega), nm_r (e' := upd xna t (nI (p * 120 + (a + 2)))) ?_ ?_⟩)
  · rw [nI_clamp (by omega)]
    exact congrArg (upd xna t) (nI_add _ _)
  refine br_f (by decide) (br_f (by decide) (br_f (by decide) (br_f (by decide) (br_f (by decide) (br_f (by decide) (br_f (by decide) (br_f (by decide) (br_f (by decide) (br_f (by decide) (br_f (by decide) (br_f (by decide) (br_t (by decide) ?_))))))))))))
  refine x_targetI hp ha ho hv hj hjl ⟨vp_in_nI ht (by omega), ?_⟩
  rw [nI_clamp (by omega)]
  exact nm_e k
theorem x_op11 {post : Int32 → SX → Prop} {t a p h o x : Nat} (ht : t < 6) (hp : p < 3) (hx : x < 4) (ha : a + 1 < 120) (hc : xim (p * 120 + a) = nI 11) (ho : xim (p * 120 + (a + 1)) = nI o) (hh : xhe t = nI (h + 1)) (h6 : h < 6) (hv : o < 256) {j : Nat} (hj : ((a : Nat) : Int) + 2 + pl_sg o = (j : Int)) (hjl : j < 120)
    (k0 : xsk (t * 6 + h) = 0 → post (-1) (xrc, xbc, xfc, xrn, xra, xfi, xfp, xgn, nI (t + 1), xlr, xhm, xrp, xrA, xrB, xrC, xby, xhd, xst, xbg, xco, xen, xre, xld, xim, xic, xih, xif, xop, xbp, xbq, xsc, upd (upd xna t (nI (p * 120 + (a + 2)))) t (nI (p * 120 + j)), upd xhe t (nI h), xlo, xsk)) (k1 : ¬ xsk (t * 6 + h) = 0 → post (-1) (xrc, xbc, xfc, xrn, xra, xfi, xfp, xgn, nI (t + 1), xlr, xhm, xrp, xrA, xrB, xrC, xby, xhd, xst, xbg, xco, xen, xre, xld, xim, xic, xih, xif, xop, xbp, xbq, xsc, upd xna t (nI (p * 120 + (a + 2))), upd xhe t (nI h), xlo, xsk)) : wpX_perform post (xrc, xbc, xfc, xrn, xra, xfi, xfp, xgn, nI (t + 1), xlr, xhm, xrp, xrA, xrB, xrC, xby, xhd, xst, xbg, xco, xen, xre, xld, xim, xic, xih, xif, xop, xbp, xbq, xsc, xna, xhe, xlo, xsk) (nI x) (nI (p * 120 + a)) := by
  unfold wpX_perform
  dsimp only
  rw [nI_clamp (by omega), hc]
  refine ⟨vp_in_nI (by omega) (by omega), nm_e ?_⟩
  refine x_hasOp (c := 11) (by omega) (fun _ => br_f ba_10 ?_) fun q => absurd q (by decide)
  rw [show nI (p * 120 + a) + 1 = nI (p * 120 + (a + 1)) from nI_1 _, nI_clamp (by omega), ho]
  refine ⟨vp_in_nI (by omega) (by omega), ?_⟩
  refine nm_r (nI_pred t) (x_sizeOf (c := 11) (by omega) ⟨vp_in_nI ht (by omega), nm_r (e' := upd xna t (nI (p * 120 + (a + 2)))) ?_ ?_⟩)
  · rw [nI_clamp (by omega)]
    exact congrArg (upd xna t) (nI_add _ _)
  refine br_f (by decide) (br_f (by decide) (br_f (by decide) (br_f (by decide) (br_f (by decide) (br_f (by decide) (br_f (by decide) (br_f (by decide) (br_f (by decide) (br_f (by decide) (br_f (by decide) (br_f (by decide) (br_f (by decide) (br_t (by decide) ?_)))))))))))))
  refine x_pop ht hh h6 ?_
  refine br_c (fun z => ?_) fun z => k1 z
  refine x_targetI hp ha ho hv hj hjl ⟨vp_in_nI ht (by omega), ?_⟩
  rw [nI_clamp (by omega)]
  exact nm_e (k0 z)
theorem x_op14 {post : Int32 → SX → Prop} {t a p h o x : Nat} (ht : t < 6) (hp : p < 3) (hx : x < 4) (ha : a + 1 < 120) (hc : xim (p * 120 + a) = nI 14) (ho : xim (p * 120 + (a + 1)) = nI o) (hh : xhe t = nI h) (h6 : h < 6) (ho4 : o < 4)
    (k : post (-1) (xrc, xbc, xfc, xrn, xra, xfi, xfp, xgn, nI (t + 1), xlr, xhm, xrp, xrA, xrB, xrC, xby, xhd, xst, xbg, xco, xen, xre, xld, xim, xic, xih, xif, xop, xbp, xbq, xsc, upd xna t (nI (p * 120 + (a + 2))), upd xhe t (nI (h + 1)), xlo, upd xsk (t * 6 + h) (xsc (x * 4 + o)))) : wpX_perform post (xrc, xbc, xfc, xrn, xra, xfi, xfp, xgn, nI (t + 1), xlr, xhm, xrp, xrA, xrB, xrC, xby, xhd, xst, xbg, xco, xen, xre, xld, xim, xic, xih, xif, xop, xbp, xbq, xsc, xna, xhe, xlo, xsk) (nI x) (nI (p * 120 + a)) := by
  unfold wpX_perform
  dsimp only
  rw [nI_clamp (by omega), hc]
  refine ⟨vp_in_nI (by omega) (by omega), nm_e ?_⟩
  refine x_hasOp (c := 14) (by omega) (fun _ => br_f ba_10 ?_) fun q => absurd q (by decide)
  rw [show nI (p * 120 + a) + 1 = nI (p * 120 + (a + 1)) from nI_1 _, nI_clamp (by omega), ho]
  refine ⟨vp_in_nI (by omega) (by omega), ?_⟩
  refine nm_r (nI_pred t) (x_sizeOf (c := 14) (by omega) ⟨vp_in_nI ht (by omega), nm_r (e' := upd xna t (nI (p * 120 + (a + 2)))) ?_ ?_⟩)
  · rw [nI_clamp (by omega)]
    exact congrArg (upd xna t) (nI_add _ _)
  refine br_f (by decide) (br_f (by decide) (br_f (by decide) (br_f (by decide) (br_f (by decide) (br_f (by decide) (br_f (by decide) (br_f (by decide) (br_f (by decide) (br_f (by decide) (br_f (by decide) (br_f (by decide) (br_f (by decide) (br_f (by decide) (br_f (by decide) (br_f (by decide) (br_t (by decide) ?_))))))))))))))))
  rw [show nI x * 4 + nI o = nI (x * 4 + o) by rw [show nI x * 4 = nI (x * 4) from pk_mul x 4, nI_add], nI_clamp (by omega)]
  exact ⟨vp_in_nI (by omega) (by omega), x_push ht hh h6 k⟩
theorem x_op15 {post : Int32 → SX → Prop} {t a p h o x : Nat} (ht : t < 6) (hp : p < 3) (hx : x < 4) (ha : a + 1 < 120) (hc : xim (p * 120 + a) = nI 15) (ho : xim (p * 120 + (a + 1)) = nI o) (hh : xhe t = nI (h + 1)) (h6 : h < 6) (ho4 : o < 4)
    (k : post (-1) (xrc, xbc, xfc, xrn, xra, xfi, xfp, xgn, nI (t + 1), xlr, xhm, xrp, xrA, xrB, xrC, xby, xhd, xst, xbg, xco, xen, xre, xld, xim, xic, xih, xif, xop, xbp, xbq, upd xsc (x * 4 + o) (xsk (t * 6 + h)), upd xna t (nI (p * 120 + (a + 2))), upd xhe t (nI h), xlo, xsk)) : wpX_perform post (xrc, xbc, xfc, xrn, xra, xfi, xfp, xgn, nI (t + 1), xlr, xhm, xrp, xrA, xrB, xrC, xby, xhd, xst, xbg, xco, xen, xre, xld, xim, xic, xih, xif, xop, xbp, xbq, xsc, xna, xhe, xlo, xsk) (nI x) (nI (p * 120 + a)) := by
  unfold wpX_perform
  dsimp only
  rw [nI_clamp (by omega), hc]
  refine ⟨vp_in_nI (by omega) (by omega), nm_e ?_⟩
  refine x_hasOp (c := 15) (by omega) (fun _ => br_f ba_10 ?_) fun q => absurd q (by decide)
  rw [show nI (p * 120 + a) + 1 = nI (p * 120 + (a + 1)) from nI_1 _, nI_clamp (by omega), ho]
  refine ⟨vp_in_nI (by omega) (by omega), ?_⟩
  refine nm_r (nI_pred t) (x_sizeOf (c := 15) (by omega) ⟨vp_in_nI ht (by omega), nm_r (e' := upd xna t (nI (p * 120 + (a + 2)))) ?_ ?_⟩)
  · rw [nI_clamp (by omega)]
    exact congrArg (upd xna t) (nI_add _ _)
  refine br_f (by decide) (br_f (by decide) (br_f (by decide) (br_f (by decide) (br_f (by decide) (br_f (by decide) (br_f (by decide) (br_f (by decide) (br_f (by decide) (br_f (by decide) (br_f (by decide) (br_f (by decide) (br_f (by decide) (br_f (by decide) (br_f (by decide) (br_f (by decide) (br_f (by decide) (br_t (by decide) ?_)))))))))))))))))
  refine x_pop ht hh h6 ?_
  rw [show nI x * 4 + nI o = nI (x * 4 + o) by rw [show nI x * 4 = nI (x * 4) from pk_mul x 4, nI_add], nI_clamp (by omega)]
  exact ⟨vp_in_nI (by omega) (by omega), nm_e k⟩
/-- the host's memory after HOST with v and the path A, B, C -/
def ho_m (m : Int64) (v A B C : Int32) : Int64 := ((m * 33) + (v.toInt64 * 512)) + ((((64 * A) + (8 * B)) + C).toInt64)
def ho_a (m : Int64) : Int32 := ((m.toUInt64 >>> ((20 : Int32).toInt64.toUInt64 &&& Int64.toUInt64 63)).toInt64).toInt32
theorem x_op13 {post : Int32 → SX → Prop} {t a p h o x : Nat} (ht : t < 6) (hp : p < 3) (hx : x < 4) (ha : a + 1 < 120) (hc : xim (p * 120 + a) = nI 13) (ho : xim (p * 120 + (a + 1)) = nI o) (hh : xhe t = nI (h + 1)) (h6 : h < 6) (ho4 : o < 4) (hbp : xbp x = nI p) {A B C : Int32} (hA : xim (p * 120 + (2 + 3 * o)) = A) (hB : xim (p * 120 + (2 + 3 * o + 1)) = B) (hC : xim (p * 120 + (2 + 3 * o + 2)) = C)
    (k : ∀ hm, hm = ho_m xhm (xsk (t * 6 + h)) A B C → post (-1) (xrc, xbc, xfc, xrn, xra, xfi, xfp, xgn, nI (t + 1), xlr, hm, xrp, xrA, xrB, xrC, xby, xhd, xst, xbg, xco, xen, xre, xld, xim, xic, xih, xif, xop, xbp, xbq, xsc, upd xna t (nI (p * 120 + (a + 2))), upd (upd xhe t (nI h)) t (nI (h + 1)), xlo, upd xsk (t * 6 + h) (ho_a hm))) : wpX_perform post (xrc, xbc, xfc, xrn, xra, xfi, xfp, xgn, nI (t + 1), xlr, xhm, xrp, xrA, xrB, xrC, xby, xhd, xst, xbg, xco, xen, xre, xld, xim, xic, xih, xif, xop, xbp, xbq, xsc, xna, xhe, xlo, xsk) (nI x) (nI (p * 120 + a)) := by
  unfold wpX_perform
  dsimp only
  rw [nI_clamp (by omega), hc]
  refine ⟨vp_in_nI (by omega) (by omega), nm_e ?_⟩
  refine x_hasOp (c := 13) (by omega) (fun _ => br_f ba_10 ?_) fun q => absurd q (by decide)
  rw [show nI (p * 120 + a) + 1 = nI (p * 120 + (a + 1)) from nI_1 _, nI_clamp (by omega), ho]
  refine ⟨vp_in_nI (by omega) (by omega), ?_⟩
  refine nm_r (nI_pred t) (x_sizeOf (c := 13) (by omega) ⟨vp_in_nI ht (by omega), nm_r (e' := upd xna t (nI (p * 120 + (a + 2)))) ?_ ?_⟩)
  · rw [nI_clamp (by omega)]
    exact congrArg (upd xna t) (nI_add _ _)
  refine br_f (by decide) (br_f (by decide) (br_f (by decide) (br_f (by decide) (br_f (by decide) (br_f (by decide) (br_f (by decide) (br_f (by decide) (br_f (by decide) (br_f (by decide) (br_f (by decide) (br_f (by decide) (br_f (by decide) (br_f (by decide) (br_f (by decide) (br_t (by decide) ?_)))))))))))))))
  rw [nI_clamp (by omega), hbp, show nI p * 120 + 2 + 3 * nI o = nI (p * 120 + (2 + 3 * o)) by
    rw [show nI p * 120 = nI (p * 120) from pk_mul p 120, show nI (p * 120) + 2 = nI (p * 120 + 2) from nI_add _ 2, show 3 * nI o = nI (3 * o) from pk_mul 3 o, nI_add]
    exact congrArg nI (by omega)]
  refine ⟨vp_in_nI hx (by omega), ?_⟩
  unfold wpX_askHost
  dsimp only
  refine x_pop ht hh h6 ?_
  dsimp only
  rw [show nI (p * 120 + (2 + 3 * o)) + 1 = nI (p * 120 + (2 + 3 * o + 1)) from nI_1 _, show nI (p * 120 + (2 + 3 * o)) + 2 = nI (p * 120 + (2 + 3 * o + 2)) from nI_add _ 2, nI_clamp (by omega), nI_clamp (by omega), nI_clamp (by omega), hA, hB, hC]
  exact ⟨vp_in_nI (by omega) (by omega), vp_in_nI (by omega) (by omega), vp_in_nI (by omega) (by omega), nm_e (x_push ht (h := h) pk_us h6 (k _ rfl))⟩
theorem x_op16 {post : Int32 → SX → Prop} {t a p h o x : Nat} (ht : t < 6) (hp : p < 3) (hx : x < 4) (ha : a < 120) (hc : xim (p * 120 + a) = nI 16) (hh : xhe t = nI (h + 1)) (h6 : h < 6)
    (k0 : t = 0 → post 0 (xrc, xbc, xfc, xrn, xra, xfi, xfp, xgn, 0, xsk (t * 6 + h), xhm, xrp, xrA, xrB, xrC, xby, xhd, xst, xbg, xco, xen, xre, xld, xim, xic, xih, xif, xop, xbp, xbq, xsc, upd xna t (nI (p * 120 + (a + 1))), upd xhe t (nI h), xlo, xsk)) (k1 : ∀ s g, t = s + 1 → xhe s = nI g → g < 6 → post (-1) (xrc, xbc, xfc, xrn, xra, xfi, xfp, xgn, nI (s + 1), xlr, xhm, xrp, xrA, xrB, xrC, xby, xhd, xst, xbg, xco, xen, xre, xld, xim, xic, xih, xif, xop, xbp, xbq, xsc, upd xna t (nI (p * 120 + (a + 1))), upd (upd xhe t (nI h)) s (nI (g + 1)), xlo, upd xsk (s * 6 + g) (xsk (t * 6 + h)))) (hg : ∀ s, t = s + 1 → ∃ g, xhe s = nI g ∧ g < 6) : wpX_perform post (xrc, xbc, xfc, xrn, xra, xfi, xfp, xgn, nI (t + 1), xlr, xhm, xrp, xrA, xrB, xrC, xby, xhd, xst, xbg, xco, xen, xre, xld, xim, xic, xih, xif, xop, xbp, xbq, xsc, xna, xhe, xlo, xsk) (nI x) (nI (p * 120 + a)) := by
  unfold wpX_perform
  dsimp only
  rw [nI_clamp (by omega), hc]
  refine ⟨vp_in_nI (by omega) (by omega), nm_e ?_⟩
  refine x_hasOp (c := 16) (by omega) (fun q => absurd q (by decide)) fun _ => br_t rfl ?_
  refine nm_r (nI_pred t) (x_sizeOf (c := 16) (by omega) ⟨vp_in_nI ht (by omega), nm_r (e' := upd xna t (nI (p * 120 + (a + 1)))) ?_ ?_⟩)
  · rw [nI_clamp (by omega)]
    exact congrArg (upd xna t) (nI_add _ _)
  refine br_f (by decide) (br_f (by decide) (br_f (by decide) (br_f (by decide) (br_f (by decide) (br_f (by decide) (br_f (by decide) (br_f (by decide) (br_f (by decide) (br_f (by decide) (br_f (by decide) (br_f (by decide) (br_f (by decide) (br_f (by decide) (br_f (by decide) (br_f (by decide) (br_f (by decide) (br_f (by decide) (br_t (by decide) ?_))))))))))))))))))
  unfold wpX_leave
  dsimp only
  refine x_pop ht hh h6 ?_
  refine nm_r (nI_pred t) ?_
  cases t with
  | zero => exact br_t nI_0 (k0 rfl)
  | succ s =>
    obtain ⟨g, g1, g2⟩ := hg s rfl
    have hs : upd xhe (s + 1) (nI h) s = nI g := by rw [pk_un (by omega)]; exact g1
    exact br_f (nI_ne0 (by omega) (by omega)) (x_push (by omega) hs g2 (k1 s g rfl g1 g2))
end D1
