section D3
variable {r n : Nat} {pt M b : Nat → Nat} {yru ypl ynu yps yfi yac yre : Int32} {yme : Int64} {yrp yrq yrl yby yle ypr ywa ybp ybq ybo ysc yfn yat yhi ylo yen : Nat → Int32}
/-! the reference's machine, one instruction at a time -/
theorem y_give {post : SY → Prop} {t h : Nat} {v : Int32} (ht : t < 6) (hh : yhi t = nI h) (h7 : h < 7) (k : post (yru, ypl, ynu, yps, yfi, nI (t + 1), yre, yme, yrp, yrq, yrl, yby, yle, ypr, ywa, ybp, ybq, ybo, ysc, yfn, yat, upd yhi t (nI (h + 1)), ylo, upd yen (t * 7 + h) v)) : wpY_give post (yru, ypl, ynu, yps, yfi, nI (t + 1), yre, yme, yrp, yrq, yrl, yby, yle, ypr, ywa, ybp, ybq, ybo, ysc, yfn, yat, yhi, ylo, yen) v := by
  have V : vp_in (nI t) 6 := vp_in_nI ht (by omega)
  have e : nI t * 7 + nI h = nI (t * 7 + h) := by rw [show nI t * 7 = nI (t * 7) from pk_mul t 7, nI_add]
  unfold wpY_give
  dsimp only
  refine nm_r (nI_pred t) ⟨V, ?_⟩
  rw [nI_clamp (by omega), hh]
  exact ⟨by rw [e]; exact vp_in_nI (by omega) (by omega), nm_r (by rw [e, nI_clamp (by omega)]) ⟨V, V, nm_r (by rw [nI_1]) k⟩⟩
theorem y_front {post : Int32 → SY → Prop} {t a p h o c x : Nat} {vv uu : Int32} (ht : t < 6) (hp : p ≤ 3) (ha : a + 1 < 120 ∨ pl_sz c = 1) (hc : c ≤ 16) (ho : pl_sz c = 2 → re_b M p (a + 1) = o) (ho' : pl_sz c = 1 → o = 0) (hh : yhi t = nI h) (h6 : h ≤ 6)
    (v0 : h = 0 → vv = 0) (v1 : ∀ g, h = g + 1 → vv = yen (t * 7 + g)) (u0 : h ≤ 1 → uu = 0) (u1 : ∀ g, h = g + 2 → uu = yen (t * 7 + g))
    (k : wY_step_159 post (nI p) (nI x) (nI t) (nI (p * 120 + a)) (nI c) (nI o) (nI h) vv uu yru ypl ynu yps yfi yac yre yme yrp yrq yrl (fun i => nI (M i)) yle ypr ywa ybp ybq ybo ysc yfn yat yhi ylo yen) : wY_step_79 post (nI p) (nI x) (nI t) (nI (p * 120 + a)) (nI c) yru ypl ynu yps yfi yac yre yme yrp yrq yrl (fun i => nI (M i)) yle ypr ywa ybp ybq ybo ysc yfn yat yhi ylo yen := by
  have s133 : ∀ z0, z0 = vv → wY_step_133 post (nI p) (nI x) (nI t) (nI (p * 120 + a)) (nI c) (nI o) (nI h) z0 yru ypl ynu yps yfi yac yre yme yrp yrq yrl (fun i => nI (M i)) yle ypr ywa ybp ybq ybo ysc yfn yat yhi ylo yen := by
    intro z0 ez
    subst ez
    refine pk_le h 1 (fun q => ?_) fun q => ?_
    · rw [u0 q] at k; exact k
    · obtain ⟨g, rfl⟩ : ∃ g, h = g + 2 := ⟨h - 2, by omega⟩
      have e : nI t * 7 + nI (g + 2) - 2 = nI (t * 7 + g) := by
        rw [show nI t * 7 = nI (t * 7) from pk_mul t 7, nI_add, show nI (t * 7 + (g + 2)) - 2 = nI (t * 7 + (g + 2) - 2) from pk_sub (b := 2) (by omega)]
        exact congrArg nI (by omega)
      rw [e, nI_clamp (by omega), ← u1 g rfl]
      exact ⟨vp_in_nI (by omega) (by omega), k⟩
  have s100 : ∀ z0, z0 = nI o → wY_step_100 post (nI p) (nI x) (nI t) (nI (p * 120 + a)) (nI c) z0 yru ypl ynu yps yfi yac yre yme yrp yrq yrl (fun i => nI (M i)) yle ypr ywa ybp ybq ybo ysc yfn yat yhi ylo yen := by
    intro z0 ez
    subst ez
    unfold wY_step_100
    rw [nI_clamp (show t < 2 ^ 31 by omega), hh]
    refine ⟨vp_in_nI ht (by omega), nm_e (pk_le h 0 (fun q => s133 _ (v0 (by omega)).symm) fun q => ?_)⟩
    obtain ⟨g, rfl⟩ : ∃ g, h = g + 1 := ⟨h - 1, by omega⟩
    have e : nI t * 7 + nI (g + 1) - 1 = nI (t * 7 + g) := by
      rw [show nI t * 7 = nI (t * 7) from pk_mul t 7, nI_add]
      exact nI_pred _
    rw [e, nI_clamp (by omega)]
    exact ⟨vp_in_nI (by omega) (by omega), s133 _ (v1 g rfl).symm⟩
  refine y_wide (show c < 256 by omega) (fun w => br_f ba_10 ?_) fun w => br_t rfl (s100 0 (by rw [ho' w]; rfl))
  have ha : a + 1 < 120 := by omega
  dsimp only
  rw [show nI (p * 120 + a) + 1 = nI (p * 120 + (a + 1)) from nI_1 _]
  exact ⟨vp_in_nI (by omega) (by omega), s100 _ (by rw [y_rd hp ha, ho w])⟩
theorem y_256 {post : Int32 → SY → Prop} {t a p h o c x f : Nat} {vv uu z0 : Int32} (ht : t < 6) (hp : p ≤ 3) (hn : n ≤ 120) (hF : pl_Fmt (re_b M p) n) (hf : f < pl_nf (re_b M p)) (la : a < pl_e (re_b M p) f) (bad : ¬ pl_bad (re_b M p) f a) (hc : re_b M p a = c) (htk : pl_tk (re_b M p) a ≤ h) (h6 : h ≤ 6)
    (k2 : c = 2 → o < 5 ∧ wY_step_292 post (nI p) (nI x) (nI t) (nI c) (nI o) vv uu yru ypl ynu yps yfi yac yre yme yrp yrq yrl (fun i => nI (M i)) yle ypr ywa ybp ybq ybo ysc yfn (upd yat t z0) (upd yhi t (nI (h - pl_tk (re_b M p) a))) (upd ylo (t * 5 + o) vv) yen)
    (k : c ≠ 2 → wY_step_292 post (nI p) (nI x) (nI t) (nI c) (nI o) vv uu yru ypl ynu yps yfi yac yre yme yrp yrq yrl (fun i => nI (M i)) yle ypr ywa ybp ybq ybo ysc yfn (upd yat t z0) (upd yhi t (nI (h - pl_tk (re_b M p) a))) ylo yen) :
    wY_step_256 post (nI p) (nI x) (nI t) (nI (p * 120 + a)) (nI c) (nI o) (nI h) vv uu z0 (nI t) yru ypl ynu yps yfi yac yre yme yrp yrq yrl (fun i => nI (M i)) yle ypr ywa ybp ybq ybo ysc yfn yat yhi ylo yen := by
  have c16 : c ≤ 16 := by unfold pl_bad at bad; omega
  refine ⟨vp_in_nI ht (by omega), nm_r (show _ = upd yat t z0 by rw [nI_clamp (by omega)]) (y_takes hp hn hF hf la bad ⟨vp_in_nI ht (by omega), nm_r (show _ = upd yhi t (nI (h - pl_tk (re_b M p) a)) by rw [nI_clamp (by omega), pk_sub htk]) ?_⟩)⟩
  refine pk_eq c 2 (fun e => ?_) k
  obtain ⟨o5, q⟩ := k2 e
  have e5 : nI t * 5 + nI o = nI (t * 5 + o) := by rw [show nI t * 5 = nI (t * 5) from pk_mul t 5, nI_add]
  rw [e5, nI_clamp (by omega)]
  exact ⟨vp_in_nI (by omega) (by omega), nm_e q⟩
theorem y_237 {post : Int32 → SY → Prop} {t a p h o c x : Nat} {vv uu : Int32} (hc : c ≤ 16)
    (k : wY_step_256 post (nI p) (nI x) (nI t) (nI (p * 120 + a)) (nI c) (nI o) (nI h) vv uu (nI (p * 120 + (a + pl_sz c))) (nI t) yru ypl ynu yps yfi yac yre yme yrp yrq yrl yby yle ypr ywa ybp ybq ybo ysc yfn yat yhi ylo yen) : wY_step_237 post (nI p) (nI x) (nI t) (nI (p * 120 + a)) (nI c) (nI o) (nI h) vv uu (nI t) yru ypl ynu yps yfi yac yre yme yrp yrq yrl yby yle ypr ywa ybp ybq ybo ysc yfn yat yhi ylo yen := by
  refine y_wide (show c < 256 by omega) (fun w => br_f ba_10 ?_) fun w => br_t rfl ?_
  · rw [show nI (p * 120 + a) + 2 = nI (p * 120 + (a + 2)) from nI_add _ 2]
    rw [w] at k; exact k
  · rw [show nI (p * 120 + a) + 1 = nI (p * 120 + (a + 1)) from nI_1 _]
    rw [w] at k; exact k

theorem y_op0 {post : Int32 → SY → Prop} {t a p g o x f : Nat} (ht : t < 6) (hp : p ≤ 3) (hx : x < 4) (ha : a + 1 < 120) (hn : n ≤ 120) (hF : pl_Fmt (re_b M p) n) (hf : f < pl_nf (re_b M p)) (la : a < pl_e (re_b M p) f) (bad : ¬ pl_bad (re_b M p) f a) (hc : re_b M p a = 0) (ho : re_b M p (a + 1) = o) (hh : yhi t = nI (g)) (h6 : g ≤ 6)  (h6' : g < 6)
    (k : post (-1) (yru, ypl, ynu, yps, yfi, nI (t + 1), yre, yme, yrp, yrq, yrl, fun i => nI (M i), yle, ypr, ywa, ybp, ybq, ybo, ysc, yfn, upd yat t (nI (p * 120 + (a + 2))), upd (upd yhi t (nI g)) t (nI (g + 1)), ylo, upd yen (t * 7 + g) (nI o).toInt8.toInt32)) : wY_step_79 post (nI p) (nI x) (nI t) (nI (p * 120 + a)) (nI 0) yru ypl ynu yps yfi (nI (t + 1)) yre yme yrp yrq yrl (fun i => nI (M i)) yle ypr ywa ybp ybq ybo ysc yfn yat yhi ylo yen := by
  have tk : pl_tk (re_b M p) a = 0 := by simp [pl_tk, hc]
  obtain ⟨vv, v0, v1⟩ : ∃ vv : Int32, (g = 0 → vv = 0) ∧ ∀ q, g = q + 1 → vv = yen (t * 7 + q) := by
    cases g with
    | zero => exact ⟨0, fun _ => rfl, fun q e => absurd e (by omega)⟩
    | succ g => exact ⟨yen (t * 7 + g), fun e => absurd e (by omega), fun q e => by rw [show g = q by omega]⟩
  obtain ⟨uu, u0, u1⟩ : ∃ uu : Int32, (g ≤ 1 → uu = 0) ∧ ∀ q, g = q + 2 → uu = yen (t * 7 + q) := by
    by_cases e : g ≤ 1
    · exact ⟨0, fun _ => rfl, fun q e' => absurd e (by omega)⟩
    · exact ⟨yen (t * 7 + (g - 2)), fun e' => absurd e' e, fun q e' => by rw [show g - 2 = q by omega]⟩
  refine y_front (c := 0) (o := o) (vv := vv) (uu := uu) ht hp (Or.inl ha) (by omega) (fun _ => ho) (fun q => absurd q (by decide)) hh h6 v0 v1 u0 u1 ?_
  refine br_f (by decide) (br_f (by decide) (br_f (by decide) (br_f (by decide) (br_f (by decide) (y_237 (c := 0) (by omega) (y_256 (c := 0) (h := g) ht hp hn hF hf la bad hc (by omega) h6 (fun e => ?_) fun e => ?_))))))
  · exact absurd e (by decide)
  · rw [tk, show g - 0 = g by omega]
    exact br_f (by decide) (br_f (by decide) (br_f (by decide) (y_gives (c := 0) (by omega) (br_f (by decide) (br_t (by decide) (y_give ht (h := g) pk_us (by omega) k))))))
theorem y_op1 {post : Int32 → SY → Prop} {t a p g o x f : Nat} (ht : t < 6) (hp : p ≤ 3) (hx : x < 4) (ha : a + 1 < 120) (hn : n ≤ 120) (hF : pl_Fmt (re_b M p) n) (hf : f < pl_nf (re_b M p)) (la : a < pl_e (re_b M p) f) (bad : ¬ pl_bad (re_b M p) f a) (hc : re_b M p a = 1) (ho : re_b M p (a + 1) = o) (hh : yhi t = nI (g)) (h6 : g ≤ 6)  (h6' : g < 6) (ho5 : o < 5)
    (k : post (-1) (yru, ypl, ynu, yps, yfi, nI (t + 1), yre, yme, yrp, yrq, yrl, fun i => nI (M i), yle, ypr, ywa, ybp, ybq, ybo, ysc, yfn, upd yat t (nI (p * 120 + (a + 2))), upd (upd yhi t (nI g)) t (nI (g + 1)), ylo, upd yen (t * 7 + g) (ylo (t * 5 + o)))) : wY_step_79 post (nI p) (nI x) (nI t) (nI (p * 120 + a)) (nI 1) yru ypl ynu yps yfi (nI (t + 1)) yre yme yrp yrq yrl (fun i => nI (M i)) yle ypr ywa ybp ybq ybo ysc yfn yat yhi ylo yen := by
  have tk : pl_tk (re_b M p) a = 0 := by simp [pl_tk, hc]
  obtain ⟨vv, v0, v1⟩ : ∃ vv : Int32, (g = 0 → vv = 0) ∧ ∀ q, g = q + 1 → vv = yen (t * 7 + q) := by
    cases g with
    | zero => exact ⟨0, fun _ => rfl, fun q e => absurd e (by omega)⟩
    | succ g => exact ⟨yen (t * 7 + g), fun e => absurd e (by omega), fun q e => by rw [show g = q by omega]⟩
  obtain ⟨uu, u0, u1⟩ : ∃ uu : Int32, (g ≤ 1 → uu = 0) ∧ ∀ q, g = q + 2 → uu = yen (t * 7 + q) := by
    by_cases e : g ≤ 1
    · exact ⟨0, fun _ => rfl, fun q e' => absurd e (by omega)⟩
    · exact ⟨yen (t * 7 + (g - 2)), fun e' => absurd e' e, fun q e' => by rw [show g - 2 = q by omega]⟩
  refine y_front (c := 1) (o := o) (vv := vv) (uu := uu) ht hp (Or.inl ha) (by omega) (fun _ => ho) (fun q => absurd q (by decide)) hh h6 v0 v1 u0 u1 ?_
  refine br_f (by decide) (br_f (by decide) (br_f (by decide) (br_f (by decide) (br_f (by decide) (y_237 (c := 1) (by omega) (y_256 (c := 1) (h := g) ht hp hn hF hf la bad hc (by omega) h6 (fun e => ?_) fun e => ?_))))))
  · exact absurd e (by decide)
  · rw [tk, show g - 0 = g by omega]
    refine br_f (by decide) (br_f (by decide) (br_f (by decide) (y_gives (c := 1) (by omega) (br_f (by decide) (br_f (by decide) (br_t (by decide) ?_))))))
    rw [show nI t * 5 + nI o = nI (t * 5 + o) by rw [show nI t * 5 = nI (t * 5) from pk_mul t 5, nI_add], nI_clamp (by omega)]
    exact ⟨vp_in_nI (by omega) (by omega), y_give ht (h := g) pk_us (by omega) k⟩
theorem y_op2 {post : Int32 → SY → Prop} {t a p g o x f : Nat} (ht : t < 6) (hp : p ≤ 3) (hx : x < 4) (ha : a + 1 < 120) (hn : n ≤ 120) (hF : pl_Fmt (re_b M p) n) (hf : f < pl_nf (re_b M p)) (la : a < pl_e (re_b M p) f) (bad : ¬ pl_bad (re_b M p) f a) (hc : re_b M p a = 2) (ho : re_b M p (a + 1) = o) (hh : yhi t = nI (g + 1)) (h6 : g + 1 ≤ 6) (ho5 : o < 5)
    (k : post (-1) (yru, ypl, ynu, yps, yfi, nI (t + 1), yre, yme, yrp, yrq, yrl, fun i => nI (M i), yle, ypr, ywa, ybp, ybq, ybo, ysc, yfn, upd yat t (nI (p * 120 + (a + 2))), upd yhi t (nI g), upd ylo (t * 5 + o) (yen (t * 7 + g)), yen)) : wY_step_79 post (nI p) (nI x) (nI t) (nI (p * 120 + a)) (nI 2) yru ypl ynu yps yfi (nI (t + 1)) yre yme yrp yrq yrl (fun i => nI (M i)) yle ypr ywa ybp ybq ybo ysc yfn yat yhi ylo yen := by
  have tk : pl_tk (re_b M p) a = 1 := by simp [pl_tk, hc]
  have v0 : g + 1 = 0 → (yen (t * 7 + g)) = 0 := fun e => absurd e (by omega)
  have v1 : ∀ q, g + 1 = q + 1 → (yen (t * 7 + g)) = yen (t * 7 + q) := fun q e => by rw [show q = g by omega]
  obtain ⟨uu, u0, u1⟩ : ∃ uu : Int32, (g + 1 ≤ 1 → uu = 0) ∧ ∀ q, g + 1 = q + 2 → uu = yen (t * 7 + q) := by
    by_cases e : g + 1 ≤ 1
    · exact ⟨0, fun _ => rfl, fun q e' => absurd e (by omega)⟩
    · exact ⟨yen (t * 7 + (g + 1 - 2)), fun e' => absurd e' e, fun q e' => by rw [show g + 1 - 2 = q by omega]⟩
  refine y_front (c := 2) (o := o) (vv := (yen (t * 7 + g))) (uu := uu) ht hp (Or.inl ha) (by omega) (fun _ => ho) (fun q => absurd q (by decide)) hh h6 v0 v1 u0 u1 ?_
  refine br_f (by decide) (br_f (by decide) (br_f (by decide) (br_f (by decide) (br_f (by decide) (y_237 (c := 2) (by omega) (y_256 (c := 2) (h := g + 1) ht hp hn hF hf la bad hc (by omega) h6 (fun e => ?_) fun e => ?_))))))
  · refine ⟨ho5, ?_⟩
    rw [tk, show g + 1 - 1 = g by omega]
    exact br_f (by decide) (br_f (by decide) (br_f (by decide) (y_gives (c := 2) (by omega) (br_t (by decide) k))))
  · exact absurd rfl e
theorem y_op3 {post : Int32 → SY → Prop} {t a p g o x f : Nat} (ht : t < 6) (hp : p ≤ 3) (hx : x < 4) (ha : a + 1 < 120) (hn : n ≤ 120) (hF : pl_Fmt (re_b M p) n) (hf : f < pl_nf (re_b M p)) (la : a < pl_e (re_b M p) f) (bad : ¬ pl_bad (re_b M p) f a) (hc : re_b M p a = 3) (hh : yhi t = nI (g + 2)) (h6 : g + 2 ≤ 6) (h6' : g < 6)
    (k : ∀ v, v = al_v 3 (yen (t * 7 + g)) (yen (t * 7 + (g + 1))) → post (-1) (yru, ypl, ynu, yps, yfi, nI (t + 1), yre, yme, yrp, yrq, yrl, fun i => nI (M i), yle, ypr, ywa, ybp, ybq, ybo, ysc, yfn, upd yat t (nI (p * 120 + (a + 1))), upd (upd yhi t (nI g)) t (nI (g + 1)), ylo, upd yen (t * 7 + g) v)) : wY_step_79 post (nI p) (nI x) (nI t) (nI (p * 120 + a)) (nI 3) yru ypl ynu yps yfi (nI (t + 1)) yre yme yrp yrq yrl (fun i => nI (M i)) yle ypr ywa ybp ybq ybo ysc yfn yat yhi ylo yen := by
  have tk : pl_tk (re_b M p) a = 2 := by simp [pl_tk, hc]
  have v0 : g + 2 = 0 → (yen (t * 7 + (g + 1))) = 0 := fun e => absurd e (by omega)
  have v1 : ∀ q, g + 2 = q + 1 → (yen (t * 7 + (g + 1))) = yen (t * 7 + q) := fun q e => by rw [show q = g + 1 by omega]
  have u0 : g + 2 ≤ 1 → (yen (t * 7 + g)) = 0 := fun e => absurd e (by omega)
  have u1 : ∀ q, g + 2 = q + 2 → (yen (t * 7 + g)) = yen (t * 7 + q) := fun q e => by rw [show q = g by omega]
  refine y_front (c := 3) (o := 0) (vv := (yen (t * 7 + (g + 1)))) (uu := (yen (t * 7 + g))) ht hp (Or.inl ha) (by omega) (fun q => absurd q (by decide)) (fun _ => rfl) hh h6 v0 v1 u0 u1 ?_
  refine br_f (by decide) (br_f (by decide) (br_f (by decide) (br_f (by decide) (br_f (by decide) (y_237 (c := 3) (by omega) (y_256 (c := 3) (h := g + 2) ht hp hn hF hf la bad hc (by omega) h6 (fun e => ?_) fun e => ?_))))))
  · exact absurd e (by decide)
  · rw [tk, show g + 2 - 2 = g by omega]
    exact br_f (by decide) (br_f (by decide) (br_f (by decide) (y_gives (c := 3) (by omega) (br_f (by decide) (br_f (by decide) (br_f (by decide) (br_f (by decide) (br_f (by decide) (br_t (by decide) (y_give ht (h := g) pk_us (by omega) (k _ rfl)))))))))))
theorem y_op4 {post : Int32 → SY → Prop} {t a p g o x f : Nat} (ht : t < 6) (hp : p ≤ 3) (hx : x < 4) (ha : a + 1 < 120) (hn : n ≤ 120) (hF : pl_Fmt (re_b M p) n) (hf : f < pl_nf (re_b M p)) (la : a < pl_e (re_b M p) f) (bad : ¬ pl_bad (re_b M p) f a) (hc : re_b M p a = 4) (hh : yhi t = nI (g + 2)) (h6 : g + 2 ≤ 6) (h6' : g < 6)
    (k : ∀ v, v = al_v 4 (yen (t * 7 + g)) (yen (t * 7 + (g + 1))) → post (-1) (yru, ypl, ynu, yps, yfi, nI (t + 1), yre, yme, yrp, yrq, yrl, fun i => nI (M i), yle, ypr, ywa, ybp, ybq, ybo, ysc, yfn, upd yat t (nI (p * 120 + (a + 1))), upd (upd yhi t (nI g)) t (nI (g + 1)), ylo, upd yen (t * 7 + g) v)) : wY_step_79 post (nI p) (nI x) (nI t) (nI (p * 120 + a)) (nI 4) yru ypl ynu yps yfi (nI (t + 1)) yre yme yrp yrq yrl (fun i => nI (M i)) yle ypr ywa ybp ybq ybo ysc yfn yat yhi ylo yen := by
  have tk : pl_tk (re_b M p) a = 2 := by simp [pl_tk, hc]
  have v0 : g + 2 = 0 → (yen (t * 7 + (g + 1))) = 0 := fun e => absurd e (by omega)
  have v1 : ∀ q, g + 2 = q + 1 → (yen (t * 7 + (g + 1))) = yen (t * 7 + q) := fun q e => by rw [show q = g + 1 by omega]
  have u0 : g + 2 ≤ 1 → (yen (t * 7 + g)) = 0 := fun e => absurd e (by omega)
  have u1 : ∀ q, g + 2 = q + 2 → (yen (t * 7 + g)) = yen (t * 7 + q) := fun q e => by rw [show q = g by omega]
  refine y_front (c := 4) (o := 0) (vv := (yen (t * 7 + (g + 1)))) (uu := (yen (t * 7 + g))) ht hp (Or.inl ha) (by omega) (fun q => absurd q (by decide)) (fun _ => rfl) hh h6 v0 v1 u0 u1 ?_
  refine br_f (by decide) (br_f (by decide) (br_f (by decide) (br_f (by decide) (br_f (by decide) (y_237 (c := 4) (by omega) (y_256 (c := 4) (h := g + 2) ht hp hn hF hf la bad hc (by omega) h6 (fun e => ?_) fun e => ?_))))))
  · exact absurd e (by decide)
  · rw [tk, show g + 2 - 2 = g by omega]
    exact br_f (by decide) (br_f (by decide) (br_f (by decide) (y_gives (c := 4) (by omega) (br_f (by decide) (br_f (by decide) (br_f (by decide) (br_f (by decide) (br_f (by decide) (br_f (by decide) (br_t (by decide) (y_give ht (h := g) pk_us (by omega) (k _ rfl))))))))))))
theorem y_op5 {post : Int32 → SY → Prop} {t a p g o x f : Nat} (ht : t < 6) (hp : p ≤ 3) (hx : x < 4) (ha : a + 1 < 120) (hn : n ≤ 120) (hF : pl_Fmt (re_b M p) n) (hf : f < pl_nf (re_b M p)) (la : a < pl_e (re_b M p) f) (bad : ¬ pl_bad (re_b M p) f a) (hc : re_b M p a = 5) (hh : yhi t = nI (g + 2)) (h6 : g + 2 ≤ 6) (h6' : g < 6)
    (k : ∀ v, v = al_v 5 (yen (t * 7 + g)) (yen (t * 7 + (g + 1))) → post (-1) (yru, ypl, ynu, yps, yfi, nI (t + 1), yre, yme, yrp, yrq, yrl, fun i => nI (M i), yle, ypr, ywa, ybp, ybq, ybo, ysc, yfn, upd yat t (nI (p * 120 + (a + 1))), upd (upd yhi t (nI g)) t (nI (g + 1)), ylo, upd yen (t * 7 + g) v)) : wY_step_79 post (nI p) (nI x) (nI t) (nI (p * 120 + a)) (nI 5) yru ypl ynu yps yfi (nI (t + 1)) yre yme yrp yrq yrl (fun i => nI (M i)) yle ypr ywa ybp ybq ybo ysc yfn yat yhi ylo yen := by
  have tk : pl_tk (re_b M p) a = 2 := by simp [pl_tk, hc]
  have v0 : g + 2 = 0 → (yen (t * 7 + (g + 1))) = 0 := fun e => absurd e (by omega)
  have v1 : ∀ q, g + 2 = q + 1 → (yen (t * 7 + (g + 1))) = yen (t * 7 + q) := fun q e => by rw [show q = g + 1 by omega]
  have u0 : g + 2 ≤ 1 → (yen (t * 7 + g)) = 0 := fun e => absurd e (by omega)
  have u1 : ∀ q, g + 2 = q + 2 → (yen (t * 7 + g)) = yen (t * 7 + q) := fun q e => by rw [show q = g by omega]
  refine y_front (c := 5) (o := 0) (vv := (yen (t * 7 + (g + 1)))) (uu := (yen (t * 7 + g))) ht hp (Or.inl ha) (by omega) (fun q => absurd q (by decide)) (fun _ => rfl) hh h6 v0 v1 u0 u1 ?_
  refine br_f (by decide) (br_f (by decide) (br_f (by decide) (br_f (by decide) (br_f (by decide) (y_237 (c := 5) (by omega) (y_256 (c := 5) (h := g + 2) ht hp hn hF hf la bad hc (by omega) h6 (fun e => ?_) fun e => ?_))))))
  · exact absurd e (by decide)
  · rw [tk, show g + 2 - 2 = g by omega]
    exact br_f (by decide) (br_f (by decide) (br_f (by decide) (y_gives (c := 5) (by omega) (br_f (by decide) (br_f (by decide) (br_f (by decide) (br_f (by decide) (br_f (by decide) (br_f (by decide) (br_f (by decide) (br_t (by decide) (y_give ht (h := g) pk_us (by omega) (k _ rfl)))))))))))))
theorem y_op6 {post : Int32 → SY → Prop} {t a p g o x f : Nat} (ht : t < 6) (hp : p ≤ 3) (hx : x < 4) (ha : a + 1 < 120) (hn : n ≤ 120) (hF : pl_Fmt (re_b M p) n) (hf : f < pl_nf (re_b M p)) (la : a < pl_e (re_b M p) f) (bad : ¬ pl_bad (re_b M p) f a) (hc : re_b M p a = 6) (hh : yhi t = nI (g + 2)) (h6 : g + 2 ≤ 6) (h6' : g < 6)
    (kd : yen (t * 7 + (g + 1)) = 0 → post 2 (yru, ypl, ynu, yps, yfi, nI (t + 1), yre, yme, yrp, yrq, yrl, fun i => nI (M i), yle, ypr, ywa, ybp, ybq, ybo, ysc, yfn, yat, yhi, ylo, yen)) (k : ¬ yen (t * 7 + (g + 1)) = 0 → ∀ v, v = al_v 6 (yen (t * 7 + g)) (yen (t * 7 + (g + 1))) → post (-1) (yru, ypl, ynu, yps, yfi, nI (t + 1), yre, yme, yrp, yrq, yrl, fun i => nI (M i), yle, ypr, ywa, ybp, ybq, ybo, ysc, yfn, upd yat t (nI (p * 120 + (a + 1))), upd (upd yhi t (nI g)) t (nI (g + 1)), ylo, upd yen (t * 7 + g) v)) : wY_step_79 post (nI p) (nI x) (nI t) (nI (p * 120 + a)) (nI 6) yru ypl ynu yps yfi (nI (t + 1)) yre yme yrp yrq yrl (fun i => nI (M i)) yle ypr ywa ybp ybq ybo ysc yfn yat yhi ylo yen := by
  have tk : pl_tk (re_b M p) a = 2 := by simp [pl_tk, hc]
  have v0 : g + 2 = 0 → (yen (t * 7 + (g + 1))) = 0 := fun e => absurd e (by omega)
  have v1 : ∀ q, g + 2 = q + 1 → (yen (t * 7 + (g + 1))) = yen (t * 7 + q) := fun q e => by rw [show q = g + 1 by omega]
  have u0 : g + 2 ≤ 1 → (yen (t * 7 + g)) = 0 := fun e => absurd e (by omega)
  have u1 : ∀ q, g + 2 = q + 2 → (yen (t * 7 + g)) = yen (t * 7 + q) := fun q e => by rw [show q = g by omega]
  refine y_front (c := 6) (o := 0) (vv := (yen (t * 7 + (g + 1)))) (uu := (yen (t * 7 + g))) ht hp (Or.inl ha) (by omega) (fun q => absurd q (by decide)) (fun _ => rfl) hh h6 v0 v1 u0 u1 ?_
  by_cases nz : yen (t * 7 + (g + 1)) = 0
  · exact br_t (by decide) (br_t nz (kd nz))
  refine br_t (by decide) (br_f nz (br_f (by decide) (br_f (by decide) (br_f (by decide) (br_f (by decide) (y_237 (c := 6) (by omega) (y_256 (c := 6) (h := g + 2) ht hp hn hF hf la bad hc (by omega) h6 (fun e => ?_) fun e => ?_)))))))
  · exact absurd e (by decide)
  · rw [tk, show g + 2 - 2 = g by omega]
    exact br_f (by decide) (br_f (by decide) (br_f (by decide) (y_gives (c := 6) (by omega) (br_f (by decide) (br_f (by decide) (br_f (by decide) (br_f (by decide) (br_f (by decide) (br_f (by decide) (br_f (by decide) (br_f (by decide) (br_t (by decide) (br_f nz ⟨nz, y_give ht (h := g) pk_us (by omega) (k nz _ rfl)⟩)))))))))))))
theorem y_op7 {post : Int32 → SY → Prop} {t a p g o x f : Nat} (ht : t < 6) (hp : p ≤ 3) (hx : x < 4) (ha : a + 1 < 120) (hn : n ≤ 120) (hF : pl_Fmt (re_b M p) n) (hf : f < pl_nf (re_b M p)) (la : a < pl_e (re_b M p) f) (bad : ¬ pl_bad (re_b M p) f a) (hc : re_b M p a = 7) (hh : yhi t = nI (g + 2)) (h6 : g + 2 ≤ 6) (h6' : g < 6)
    (k : ∀ v, v = al_v 7 (yen (t * 7 + g)) (yen (t * 7 + (g + 1))) → post (-1) (yru, ypl, ynu, yps, yfi, nI (t + 1), yre, yme, yrp, yrq, yrl, fun i => nI (M i), yle, ypr, ywa, ybp, ybq, ybo, ysc, yfn, upd yat t (nI (p * 120 + (a + 1))), upd (upd yhi t (nI g)) t (nI (g + 1)), ylo, upd yen (t * 7 + g) v)) : wY_step_79 post (nI p) (nI x) (nI t) (nI (p * 120 + a)) (nI 7) yru ypl ynu yps yfi (nI (t + 1)) yre yme yrp yrq yrl (fun i => nI (M i)) yle ypr ywa ybp ybq ybo ysc yfn yat yhi ylo yen := by
  have tk : pl_tk (re_b M p) a = 2 := by simp [pl_tk, hc]
  have v0 : g + 2 = 0 → (yen (t * 7 + (g + 1))) = 0 := fun e => absurd e (by omega)
  have v1 : ∀ q, g + 2 = q + 1 → (yen (t * 7 + (g + 1))) = yen (t * 7 + q) := fun q e => by rw [show q = g + 1 by omega]
  have u0 : g + 2 ≤ 1 → (yen (t * 7 + g)) = 0 := fun e => absurd e (by omega)
  have u1 : ∀ q, g + 2 = q + 2 → (yen (t * 7 + g)) = yen (t * 7 + q) := fun q e => by rw [show q = g by omega]
  refine y_front (c := 7) (o := 0) (vv := (yen (t * 7 + (g + 1)))) (uu := (yen (t * 7 + g))) ht hp (Or.inl ha) (by omega) (fun q => absurd q (by decide)) (fun _ => rfl) hh h6 v0 v1 u0 u1 ?_
  refine br_f (by decide) (br_f (by decide) (br_f (by decide) (br_f (by decide) (br_f (by decide) (y_237 (c := 7) (by omega) (y_256 (c := 7) (h := g + 2) ht hp hn hF hf la bad hc (by omega) h6 (fun e => ?_) fun e => ?_))))))
  · exact absurd e (by decide)
  · rw [tk, show g + 2 - 2 = g by omega]
    refine br_f (by decide) (br_f (by decide) (br_f (by decide) (y_gives (c := 7) (by omega) (br_f (by decide) (br_f (by decide) (br_f (by decide) (br_f (by decide) (br_f (by decide) (br_f (by decide) (br_f (by decide) (br_f (by decide) (br_f (by decide) (br_c (fun z => ?_) fun z => ?_)))))))))))))
    · exact y_give ht (h := g) pk_us (by omega) (k _ (by show 0 = if _ then (0 : Int32) else 1; rw [if_pos z]))
    · exact y_give ht (h := g) pk_us (by omega) (k _ (by show 1 = if _ then (0 : Int32) else 1; rw [if_neg z]))
theorem y_op8 {post : Int32 → SY → Prop} {t a p g o x f : Nat} (ht : t < 6) (hp : p ≤ 3) (hx : x < 4) (ha : a + 1 < 120) (hn : n ≤ 120) (hF : pl_Fmt (re_b M p) n) (hf : f < pl_nf (re_b M p)) (la : a < pl_e (re_b M p) f) (bad : ¬ pl_bad (re_b M p) f a) (hc : re_b M p a = 8) (hh : yhi t = nI (g + 1)) (h6 : g + 1 ≤ 6) (h6' : g < 5)
    (k : post (-1) (yru, ypl, ynu, yps, yfi, nI (t + 1), yre, yme, yrp, yrq, yrl, fun i => nI (M i), yle, ypr, ywa, ybp, ybq, ybo, ysc, yfn, upd yat t (nI (p * 120 + (a + 1))), upd (upd (upd yhi t (nI g)) t (nI (g + 1))) t (nI (g + 1 + 1)), ylo, upd (upd yen (t * 7 + g) (yen (t * 7 + g))) (t * 7 + (g + 1)) (yen (t * 7 + g)))) : wY_step_79 post (nI p) (nI x) (nI t) (nI (p * 120 + a)) (nI 8) yru ypl ynu yps yfi (nI (t + 1)) yre yme yrp yrq yrl (fun i => nI (M i)) yle ypr ywa ybp ybq ybo ysc yfn yat yhi ylo yen := by
  have tk : pl_tk (re_b M p) a = 1 := by simp [pl_tk, hc]
  have v0 : g + 1 = 0 → (yen (t * 7 + g)) = 0 := fun e => absurd e (by omega)
  have v1 : ∀ q, g + 1 = q + 1 → (yen (t * 7 + g)) = yen (t * 7 + q) := fun q e => by rw [show q = g by omega]
  obtain ⟨uu, u0, u1⟩ : ∃ uu : Int32, (g + 1 ≤ 1 → uu = 0) ∧ ∀ q, g + 1 = q + 2 → uu = yen (t * 7 + q) := by
    by_cases e : g + 1 ≤ 1
    · exact ⟨0, fun _ => rfl, fun q e' => absurd e (by omega)⟩
    · exact ⟨yen (t * 7 + (g + 1 - 2)), fun e' => absurd e' e, fun q e' => by rw [show g + 1 - 2 = q by omega]⟩
  refine y_front (c := 8) (o := 0) (vv := (yen (t * 7 + g))) (uu := uu) ht hp (Or.inl ha) (by omega) (fun q => absurd q (by decide)) (fun _ => rfl) hh h6 v0 v1 u0 u1 ?_
  refine br_f (by decide) (br_f (by decide) (br_f (by decide) (br_f (by decide) (br_f (by decide) (y_237 (c := 8) (by omega) (y_256 (c := 8) (h := g + 1) ht hp hn hF hf la bad hc (by omega) h6 (fun e => ?_) fun e => ?_))))))
  · exact absurd e (by decide)
  · rw [tk, show g + 1 - 1 = g by omega]
    refine br_f (by decide) (br_t (by decide) ?_)
    refine y_give ht (h := g) pk_us (by omega) ?_
    exact br_f (by decide) (y_gives (c := 8) (by omega) (br_f (by decide) (br_f (by decide) (br_f (by decide) (br_t (by decide) (y_give ht (h := g + 1) pk_us (by omega) k))))))
theorem y_op9 {post : Int32 → SY → Prop} {t a p g o x f : Nat} (ht : t < 6) (hp : p ≤ 3) (hx : x < 4) (ha : a + 1 < 120) (hn : n ≤ 120) (hF : pl_Fmt (re_b M p) n) (hf : f < pl_nf (re_b M p)) (la : a < pl_e (re_b M p) f) (bad : ¬ pl_bad (re_b M p) f a) (hc : re_b M p a = 9) (hh : yhi t = nI (g + 1)) (h6 : g + 1 ≤ 6)
    (k : post (-1) (yru, ypl, ynu, yps, yfi, nI (t + 1), yre, yme, yrp, yrq, yrl, fun i => nI (M i), yle, ypr, ywa, ybp, ybq, ybo, ysc, yfn, upd yat t (nI (p * 120 + (a + 1))), upd yhi t (nI g), ylo, yen)) : wY_step_79 post (nI p) (nI x) (nI t) (nI (p * 120 + a)) (nI 9) yru ypl ynu yps yfi (nI (t + 1)) yre yme yrp yrq yrl (fun i => nI (M i)) yle ypr ywa ybp ybq ybo ysc yfn yat yhi ylo yen := by
  have tk : pl_tk (re_b M p) a = 1 := by simp [pl_tk, hc]
  have v0 : g + 1 = 0 → (yen (t * 7 + g)) = 0 := fun e => absurd e (by omega)
  have v1 : ∀ q, g + 1 = q + 1 → (yen (t * 7 + g)) = yen (t * 7 + q) := fun q e => by rw [show q = g by omega]
  obtain ⟨uu, u0, u1⟩ : ∃ uu : Int32, (g + 1 ≤ 1 → uu = 0) ∧ ∀ q, g + 1 = q + 2 → uu = yen (t * 7 + q) := by
    by_cases e : g + 1 ≤ 1
    · exact ⟨0, fun _ => rfl, fun q e' => absurd e (by omega)⟩
    · exact ⟨yen (t * 7 + (g + 1 - 2)), fun e' => absurd e' e, fun q e' => by rw [show g + 1 - 2 = q by omega]⟩
  refine y_front (c := 9) (o := 0) (vv := (yen (t * 7 + g))) (uu := uu) ht hp (Or.inl ha) (by omega) (fun q => absurd q (by decide)) (fun _ => rfl) hh h6 v0 v1 u0 u1 ?_
  refine br_f (by decide) (br_f (by decide) (br_f (by decide) (br_f (by decide) (br_f (by decide) (y_237 (c := 9) (by omega) (y_256 (c := 9) (h := g + 1) ht hp hn hF hf la bad hc (by omega) h6 (fun e => ?_) fun e => ?_))))))
  · exact absurd e (by decide)
  · rw [tk, show g + 1 - 1 = g by omega]
    exact br_f (by decide) (br_f (by decide) (br_f (by decide) (y_gives (c := 9) (by omega) (br_t (by decide) k))))
theorem y_op13 {post : Int32 → SY → Prop} {t a p g o x f : Nat} (ht : t < 6) (hp : p ≤ 3) (hx : x < 4) (ha : a + 1 < 120) (hn : n ≤ 120) (hF : pl_Fmt (re_b M p) n) (hf : f < pl_nf (re_b M p)) (la : a < pl_e (re_b M p) f) (bad : ¬ pl_bad (re_b M p) f a) (hc : re_b M p a = 13) (ho : re_b M p (a + 1) = o) (hh : yhi t = nI (g + 1)) (h6 : g + 1 ≤ 6) (ho4 : o < 4) {A B C : Int32} (hA : nI (re_b M p (2 + 3 * o)) = A) (hB : nI (re_b M p (2 + 3 * o + 1)) = B) (hC : nI (re_b M p (2 + 3 * o + 2)) = C)
    (k : ∀ hm, hm = ho_m yme (yen (t * 7 + g)) A B C → post (-1) (yru, ypl, ynu, yps, yfi, nI (t + 1), yre, hm, yrp, yrq, yrl, fun i => nI (M i), yle, ypr, ywa, ybp, ybq, ybo, ysc, yfn, upd yat t (nI (p * 120 + (a + 2))), upd (upd yhi t (nI g)) t (nI (g + 1)), ylo, upd yen (t * 7 + g) (ho_a hm))) : wY_step_79 post (nI p) (nI x) (nI t) (nI (p * 120 + a)) (nI 13) yru ypl ynu yps yfi (nI (t + 1)) yre yme yrp yrq yrl (fun i => nI (M i)) yle ypr ywa ybp ybq ybo ysc yfn yat yhi ylo yen := by
  have tk : pl_tk (re_b M p) a = 1 := by simp [pl_tk, hc]
  have v0 : g + 1 = 0 → (yen (t * 7 + g)) = 0 := fun e => absurd e (by omega)
  have v1 : ∀ q, g + 1 = q + 1 → (yen (t * 7 + g)) = yen (t * 7 + q) := fun q e => by rw [show q = g by omega]
  obtain ⟨uu, u0, u1⟩ : ∃ uu : Int32, (g + 1 ≤ 1 → uu = 0) ∧ ∀ q, g + 1 = q + 2 → uu = yen (t * 7 + q) := by
    by_cases e : g + 1 ≤ 1
    · exact ⟨0, fun _ => rfl, fun q e' => absurd e (by omega)⟩
    · exact ⟨yen (t * 7 + (g + 1 - 2)), fun e' => absurd e' e, fun q e' => by rw [show g + 1 - 2 = q by omega]⟩
  refine y_front (c := 13) (o := o) (vv := (yen (t * 7 + g))) (uu := uu) ht hp (Or.inl ha) (by omega) (fun _ => ho) (fun q => absurd q (by decide)) hh h6 v0 v1 u0 u1 ?_
  refine br_f (by decide) (br_f (by decide) (br_f (by decide) (br_f (by decide) (br_f (by decide) (y_237 (c := 13) (by omega) (y_256 (c := 13) (h := g + 1) ht hp hn hF hf la bad hc (by omega) h6 (fun e => ?_) fun e => ?_))))))
  · exact absurd e (by decide)
  · rw [tk, show g + 1 - 1 = g by omega]
    refine br_f (by decide) (br_f (by decide) (br_t (by decide) ?_))
    rw [show nI p * 120 + 2 + nI o * 3 = nI (p * 120 + (2 + 3 * o)) by
      rw [show nI p * 120 = nI (p * 120) from pk_mul p 120, show nI (p * 120) + 2 = nI (p * 120 + 2) from nI_add _ 2, show nI o * 3 = nI (o * 3) from pk_mul o 3, nI_add]
      exact congrArg nI (by omega)]
    unfold wpY_host
    dsimp only
    rw [show nI (p * 120 + (2 + 3 * o)) + 1 = nI (p * 120 + (2 + 3 * o + 1)) from nI_1 _, show nI (p * 120 + (2 + 3 * o)) + 2 = nI (p * 120 + (2 + 3 * o + 2)) from nI_add _ 2, y_rd hp (by omega), y_rd hp (by omega), y_rd hp (by omega), hA, hB, hC]
    exact ⟨vp_in_nI (by omega) (by omega), vp_in_nI (by omega) (by omega), vp_in_nI (by omega) (by omega), nm_e (y_give ht (h := g) pk_us (by omega) (k _ rfl))⟩
theorem y_op14 {post : Int32 → SY → Prop} {t a p g o x f : Nat} (ht : t < 6) (hp : p ≤ 3) (hx : x < 4) (ha : a + 1 < 120) (hn : n ≤ 120) (hF : pl_Fmt (re_b M p) n) (hf : f < pl_nf (re_b M p)) (la : a < pl_e (re_b M p) f) (bad : ¬ pl_bad (re_b M p) f a) (hc : re_b M p a = 14) (ho : re_b M p (a + 1) = o) (hh : yhi t = nI (g)) (h6 : g ≤ 6) (h6' : g < 6) (ho4 : o < 4)
    (k : post (-1) (yru, ypl, ynu, yps, yfi, nI (t + 1), yre, yme, yrp, yrq, yrl, fun i => nI (M i), yle, ypr, ywa, ybp, ybq, ybo, ysc, yfn, upd yat t (nI (p * 120 + (a + 2))), upd (upd yhi t (nI g)) t (nI (g + 1)), ylo, upd yen (t * 7 + g) (ysc (x * 4 + o)))) : wY_step_79 post (nI p) (nI x) (nI t) (nI (p * 120 + a)) (nI 14) yru ypl ynu yps yfi (nI (t + 1)) yre yme yrp yrq yrl (fun i => nI (M i)) yle ypr ywa ybp ybq ybo ysc yfn yat yhi ylo yen := by
  have tk : pl_tk (re_b M p) a = 0 := by simp [pl_tk, hc]
  obtain ⟨vv, v0, v1⟩ : ∃ vv : Int32, (g = 0 → vv = 0) ∧ ∀ q, g = q + 1 → vv = yen (t * 7 + q) := by
    cases g with
    | zero => exact ⟨0, fun _ => rfl, fun q e => absurd e (by omega)⟩
    | succ g => exact ⟨yen (t * 7 + g), fun e => absurd e (by omega), fun q e => by rw [show g = q by omega]⟩
  obtain ⟨uu, u0, u1⟩ : ∃ uu : Int32, (g ≤ 1 → uu = 0) ∧ ∀ q, g = q + 2 → uu = yen (t * 7 + q) := by
    by_cases e : g ≤ 1
    · exact ⟨0, fun _ => rfl, fun q e' => absurd e (by omega)⟩
    · exact ⟨yen (t * 7 + (g - 2)), fun e' => absurd e' e, fun q e' => by rw [show g - 2 = q by omega]⟩
  refine y_front (c := 14) (o := o) (vv := vv) (uu := uu) ht hp (Or.inl ha) (by omega) (fun _ => ho) (fun q => absurd q (by decide)) hh h6 v0 v1 u0 u1 ?_
  refine br_f (by decide) (br_f (by decide) (br_f (by decide) (br_f (by decide) (br_f (by decide) (y_237 (c := 14) (by omega) (y_256 (c := 14) (h := g) ht hp hn hF hf la bad hc (by omega) h6 (fun e => ?_) fun e => ?_))))))
  · exact absurd e (by decide)
  · rw [tk, show g - 0 = g by omega]
    refine br_f (by decide) (br_f (by decide) (br_f (by decide) (y_gives (c := 14) (by omega) (br_f (by decide) (br_f (by decide) (br_f (by decide) (br_f (by decide) (br_t (by decide) ?_))))))))
    rw [show nI x * 4 + nI o = nI (x * 4 + o) by rw [show nI x * 4 = nI (x * 4) from pk_mul x 4, nI_add], nI_clamp (by omega)]
    exact ⟨vp_in_nI (by omega) (by omega), y_give ht (h := g) pk_us (by omega) k⟩
theorem y_op15 {post : Int32 → SY → Prop} {t a p g o x f : Nat} (ht : t < 6) (hp : p ≤ 3) (hx : x < 4) (ha : a + 1 < 120) (hn : n ≤ 120) (hF : pl_Fmt (re_b M p) n) (hf : f < pl_nf (re_b M p)) (la : a < pl_e (re_b M p) f) (bad : ¬ pl_bad (re_b M p) f a) (hc : re_b M p a = 15) (ho : re_b M p (a + 1) = o) (hh : yhi t = nI (g + 1)) (h6 : g + 1 ≤ 6) (ho4 : o < 4)
    (k : post (-1) (yru, ypl, ynu, yps, yfi, nI (t + 1), yre, yme, yrp, yrq, yrl, fun i => nI (M i), yle, ypr, ywa, ybp, ybq, ybo, upd ysc (x * 4 + o) (yen (t * 7 + g)), yfn, upd yat t (nI (p * 120 + (a + 2))), upd yhi t (nI g), ylo, yen)) : wY_step_79 post (nI p) (nI x) (nI t) (nI (p * 120 + a)) (nI 15) yru ypl ynu yps yfi (nI (t + 1)) yre yme yrp yrq yrl (fun i => nI (M i)) yle ypr ywa ybp ybq ybo ysc yfn yat yhi ylo yen := by
  have tk : pl_tk (re_b M p) a = 1 := by simp [pl_tk, hc]
  have v0 : g + 1 = 0 → (yen (t * 7 + g)) = 0 := fun e => absurd e (by omega)
  have v1 : ∀ q, g + 1 = q + 1 → (yen (t * 7 + g)) = yen (t * 7 + q) := fun q e => by rw [show q = g by omega]
  obtain ⟨uu, u0, u1⟩ : ∃ uu : Int32, (g + 1 ≤ 1 → uu = 0) ∧ ∀ q, g + 1 = q + 2 → uu = yen (t * 7 + q) := by
    by_cases e : g + 1 ≤ 1
    · exact ⟨0, fun _ => rfl, fun q e' => absurd e (by omega)⟩
    · exact ⟨yen (t * 7 + (g + 1 - 2)), fun e' => absurd e' e, fun q e' => by rw [show g + 1 - 2 = q by omega]⟩
  refine y_front (c := 15) (o := o) (vv := (yen (t * 7 + g))) (uu := uu) ht hp (Or.inl ha) (by omega) (fun _ => ho) (fun q => absurd q (by decide)) hh h6 v0 v1 u0 u1 ?_
  refine br_f (by decide) (br_f (by decide) (br_f (by decide) (br_f (by decide) (br_f (by decide) (y_237 (c := 15) (by omega) (y_256 (c := 15) (h := g + 1) ht hp hn hF hf la bad hc (by omega) h6 (fun e => ?_) fun e => ?_))))))
  · exact absurd e (by decide)
  · rw [tk, show g + 1 - 1 = g by omega]
    refine br_t (by decide) ?_
    rw [show nI x * 4 + nI o = nI (x * 4 + o) by rw [show nI x * 4 = nI (x * 4) from pk_mul x 4, nI_add], nI_clamp (by omega)]
    exact ⟨vp_in_nI (by omega) (by omega), nm_e (br_f (by decide) (br_f (by decide) (y_gives (c := 15) (by omega) (br_t (by decide) k))))⟩
theorem y_op10 {post : Int32 → SY → Prop} {t a p g o x f : Nat} (ht : t < 6) (hp : p ≤ 3) (hx : x < 4) (ha : a + 1 < 120) (hn : n ≤ 120) (hF : pl_Fmt (re_b M p) n) (hf : f < pl_nf (re_b M p)) (la : a < pl_e (re_b M p) f) (bad : ¬ pl_bad (re_b M p) f a) (hc : re_b M p a = 10) (ho : re_b M p (a + 1) = o) (hh : yhi t = nI (g)) (h6 : g ≤ 6) (hv : ∀ i, M i < 256) {j : Nat} (hj : pl_tg (re_b M p) a = (j : Int)) (hjl : j < 120)
    (k : post (-1) (yru, ypl, ynu, yps, yfi, nI (t + 1), yre, yme, yrp, yrq, yrl, fun i => nI (M i), yle, ypr, ywa, ybp, ybq, ybo, ysc, yfn, upd yat t (nI (p * 120 + j)), upd yhi t (nI g), ylo, yen)) : wY_step_79 post (nI p) (nI x) (nI t) (nI (p * 120 + a)) (nI 10) yru ypl ynu yps yfi (nI (t + 1)) yre yme yrp yrq yrl (fun i => nI (M i)) yle ypr ywa ybp ybq ybo ysc yfn yat yhi ylo yen := by
  have tk : pl_tk (re_b M p) a = 0 := by simp [pl_tk, hc]
  obtain ⟨vv, v0, v1⟩ : ∃ vv : Int32, (g = 0 → vv = 0) ∧ ∀ q, g = q + 1 → vv = yen (t * 7 + q) := by
    cases g with
    | zero => exact ⟨0, fun _ => rfl, fun q e => absurd e (by omega)⟩
    | succ g => exact ⟨yen (t * 7 + g), fun e => absurd e (by omega), fun q e => by rw [show g = q by omega]⟩
  obtain ⟨uu, u0, u1⟩ : ∃ uu : Int32, (g ≤ 1 → uu = 0) ∧ ∀ q, g = q + 2 → uu = yen (t * 7 + q) := by
    by_cases e : g ≤ 1
    · exact ⟨0, fun _ => rfl, fun q e' => absurd e (by omega)⟩
    · exact ⟨yen (t * 7 + (g - 2)), fun e' => absurd e' e, fun q e' => by rw [show g - 2 = q by omega]⟩
  refine y_front (c := 10) (o := o) (vv := vv) (uu := uu) ht hp (Or.inl ha) (by omega) (fun _ => ho) (fun q => absurd q (by decide)) hh h6 v0 v1 u0 u1 ?_
  refine br_f (by decide) (br_f (by decide) (br_f (by decide) (br_t (by decide) ?_)))
  · unfold wY_step_228
    refine y_target hp ha hv fun T hT => ?_
    have eT : T = nI (p * 120 + j) := tg_n (by rw [hT, hj]; omega) (by omega)
    subst eT
    refine y_256 (c := 10) (h := g) ht hp hn hF hf la bad hc (by omega) h6 (fun e => absurd e (by decide)) fun e => ?_
    rw [tk, show g - 0 = g by omega]
    exact br_f (by decide) (br_f (by decide) (br_f (by decide) (y_gives (c := 10) (by omega) (br_t (by decide) k))))
theorem y_op11 {post : Int32 → SY → Prop} {t a p g o x f : Nat} (ht : t < 6) (hp : p ≤ 3) (hx : x < 4) (ha : a + 1 < 120) (hn : n ≤ 120) (hF : pl_Fmt (re_b M p) n) (hf : f < pl_nf (re_b M p)) (la : a < pl_e (re_b M p) f) (bad : ¬ pl_bad (re_b M p) f a) (hc : re_b M p a = 11) (ho : re_b M p (a + 1) = o) (hh : yhi t = nI (g + 1)) (h6 : g + 1 ≤ 6) (hv : ∀ i, M i < 256) {j : Nat} (hj : pl_tg (re_b M p) a = (j : Int)) (hjl : j < 120)
    (k0 : yen (t * 7 + g) = 0 → post (-1) (yru, ypl, ynu, yps, yfi, nI (t + 1), yre, yme, yrp, yrq, yrl, fun i => nI (M i), yle, ypr, ywa, ybp, ybq, ybo, ysc, yfn, upd yat t (nI (p * 120 + j)), upd yhi t (nI g), ylo, yen)) (k1 : ¬ yen (t * 7 + g) = 0 → post (-1) (yru, ypl, ynu, yps, yfi, nI (t + 1), yre, yme, yrp, yrq, yrl, fun i => nI (M i), yle, ypr, ywa, ybp, ybq, ybo, ysc, yfn, upd yat t (nI (p * 120 + (a + 2))), upd yhi t (nI g), ylo, yen)) : wY_step_79 post (nI p) (nI x) (nI t) (nI (p * 120 + a)) (nI 11) yru ypl ynu yps yfi (nI (t + 1)) yre yme yrp yrq yrl (fun i => nI (M i)) yle ypr ywa ybp ybq ybo ysc yfn yat yhi ylo yen := by
  have tk : pl_tk (re_b M p) a = 1 := by simp [pl_tk, hc]
  have v0 : g + 1 = 0 → (yen (t * 7 + g)) = 0 := fun e => absurd e (by omega)
  have v1 : ∀ q, g + 1 = q + 1 → (yen (t * 7 + g)) = yen (t * 7 + q) := fun q e => by rw [show q = g by omega]
  obtain ⟨uu, u0, u1⟩ : ∃ uu : Int32, (g + 1 ≤ 1 → uu = 0) ∧ ∀ q, g + 1 = q + 2 → uu = yen (t * 7 + q) := by
    by_cases e : g + 1 ≤ 1
    · exact ⟨0, fun _ => rfl, fun q e' => absurd e (by omega)⟩
    · exact ⟨yen (t * 7 + (g + 1 - 2)), fun e' => absurd e' e, fun q e' => by rw [show g + 1 - 2 = q by omega]⟩
  refine y_front (c := 11) (o := o) (vv := (yen (t * 7 + g))) (uu := uu) ht hp (Or.inl ha) (by omega) (fun _ => ho) (fun q => absurd q (by decide)) hh h6 v0 v1 u0 u1 ?_
  refine br_f (by decide) (br_f (by decide) (br_f (by decide) (br_f (by decide) (br_t (by decide) (br_c (fun z => ?_) fun z => ?_)))))
  · unfold wY_step_228
    refine y_target hp ha hv fun T hT => ?_
    have eT : T = nI (p * 120 + j) := tg_n (by rw [hT, hj]; omega) (by omega)
    subst eT
    refine y_256 (c := 11) (h := g + 1) ht hp hn hF hf la bad hc (by omega) h6 (fun e => absurd e (by decide)) fun e => ?_
    rw [tk, show g + 1 - 1 = g by omega]
    exact br_f (by decide) (br_f (by decide) (br_f (by decide) (y_gives (c := 11) (by omega) (br_t (by decide) (k0 z)))))
  · refine y_237 (c := 11) (by omega) (y_256 (c := 11) (h := g + 1) ht hp hn hF hf la bad hc (by omega) h6 (fun e => absurd e (by decide)) fun e => ?_)
    rw [tk, show g + 1 - 1 = g by omega]
    exact br_f (by decide) (br_f (by decide) (br_f (by decide) (y_gives (c := 11) (by omega) (br_t (by decide) (k1 z)))))
theorem y_op16 {post : Int32 → SY → Prop} {t a p g o x f : Nat} (ht : t < 6) (hp : p ≤ 3) (hx : x < 4) (ha : a < 120) (hn : n ≤ 120) (hF : pl_Fmt (re_b M p) n) (hf : f < pl_nf (re_b M p)) (la : a < pl_e (re_b M p) f) (bad : ¬ pl_bad (re_b M p) f a) (hc : re_b M p a = 16) (hh : yhi t = nI (g + 1)) (h6 : g + 1 ≤ 6)
    (k0 : t = 0 → post 0 (yru, ypl, ynu, yps, yfi, 0, yen (t * 7 + g), yme, yrp, yrq, yrl, fun i => nI (M i), yle, ypr, ywa, ybp, ybq, ybo, ysc, yfn, yat, yhi, ylo, yen)) (k1 : ∀ s q, t = s + 1 → yhi s = nI q → q < 6 → post (-1) (yru, ypl, ynu, yps, yfi, nI (s + 1), yre, yme, yrp, yrq, yrl, fun i => nI (M i), yle, ypr, ywa, ybp, ybq, ybo, ysc, yfn, yat, upd yhi s (nI (q + 1)), ylo, upd yen (s * 7 + q) (yen (t * 7 + g)))) (hg : ∀ s, t = s + 1 → ∃ q, yhi s = nI q ∧ q < 6) : wY_step_79 post (nI p) (nI x) (nI t) (nI (p * 120 + a)) (nI 16) yru ypl ynu yps yfi (nI (t + 1)) yre yme yrp yrq yrl (fun i => nI (M i)) yle ypr ywa ybp ybq ybo ysc yfn yat yhi ylo yen := by
  have tk : pl_tk (re_b M p) a = 1 := by simp [pl_tk, hc]
  have v0 : g + 1 = 0 → (yen (t * 7 + g)) = 0 := fun e => absurd e (by omega)
  have v1 : ∀ q, g + 1 = q + 1 → (yen (t * 7 + g)) = yen (t * 7 + q) := fun q e => by rw [show q = g by omega]
  obtain ⟨uu, u0, u1⟩ : ∃ uu : Int32, (g + 1 ≤ 1 → uu = 0) ∧ ∀ q, g + 1 = q + 2 → uu = yen (t * 7 + q) := by
    by_cases e : g + 1 ≤ 1
    · exact ⟨0, fun _ => rfl, fun q e' => absurd e (by omega)⟩
    · exact ⟨yen (t * 7 + (g + 1 - 2)), fun e' => absurd e' e, fun q e' => by rw [show g + 1 - 2 = q by omega]⟩
  refine y_front (c := 16) (o := 0) (vv := (yen (t * 7 + g))) (uu := uu) ht hp (Or.inr (by decide)) (by omega) (fun q => absurd q (by decide)) (fun _ => rfl) hh h6 v0 v1 u0 u1 ?_
  refine br_f (by decide) (br_f (by decide) (br_t (by decide) ?_))
  unfold wpY_giveBack
  dsimp only
  refine nm_r (nI_pred t) ?_
  cases t with
  | zero => exact br_t nI_0 (k0 rfl)
  | succ s =>
    obtain ⟨q, g1, g2⟩ := hg s rfl
    exact br_f (nI_ne0 (by omega) (by omega)) (y_give (by omega) g1 (by omega) (k1 s q rfl g1 g2))
end D3
