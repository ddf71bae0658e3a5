section C1
variable {r n : Nat} {pt M b : Nat → Nat} {yru ypl ynu yps yfi yac yre : Int32} {yme : Int64} {yrp yrq yrl yby yle ypr ywa ybp ybq ybo ysc yfn yat yhi ylo yen : Nat → Int32}
theorem wa_flow {b : Nat → Nat} {f : Nat} {w : Nat → Int32} (hs : pl_s b f < pl_e b f) (hl : pl_e b f ≤ pl_s b f + 40) (h0 : ¬ w 0 = 0) (hO : ∀ k, k < 280 → ¬ w k = 0 → wa_O b f w k) : pl_Flow b f := by
  refine ⟨fun a h => pl_s b f ≤ a ∧ a < pl_e b f ∧ h ≤ 6 ∧ ¬ w ((a - pl_s b f) * 7 + h) = 0, ⟨Nat.le_refl _, hs, by omega, by rw [Nat.sub_self]; exact h0⟩, fun a h h' g g' => ?_, fun a h g => ?_⟩
  · have q := (hO ((a - pl_s b f) * 7 + h) (by omega) g.2.2.2).1
    by_cases e : h = h'
    · exact e
    · have q2 := q h' (by omega) (by omega)
      rw [show (a - pl_s b f) * 7 + h - ((a - pl_s b f) * 7 + h) % 7 + h' = (a - pl_s b f) * 7 + h' by omega] at q2
      exact absurd q2 g'.2.2.2
  · obtain ⟨g1, g2, g3, g4⟩ := g
    have q := hO ((a - pl_s b f) * 7 + h) (by omega) g4
    have d1 : ((a - pl_s b f) * 7 + h) / 7 = a - pl_s b f := by omega
    have d2 : ((a - pl_s b f) * 7 + h) % 7 = h := by omega
    have d3 : pl_s b f + (a - pl_s b f) = a := by omega
    unfold wa_O wa_h at q
    rw [d1, d2, d3] at q
    obtain ⟨-, q2, q3, q4, q5⟩ := q
    refine ⟨q2, q3, fun c => ?_, fun c1 c2 => ?_⟩
    · obtain ⟨j, e1, e2, e3⟩ := q5 c
      exact ⟨pl_s b f + j, e1, by omega, e2, by omega, e2, q3, by rw [show pl_s b f + j - pl_s b f = j by omega]; exact e3⟩
    · obtain ⟨e1, e2⟩ := q4 c1 c2
      exact ⟨e1, by omega, e1, q3, by rw [show a + pl_sz (b a) - pl_s b f = a - pl_s b f + pl_sz (b a) by omega]; exact e2⟩
theorem y_flow {post : Int32 → SY → Prop} {f : Nat} (hn : n ≤ 120) (hF : pl_Fmt (re_b M 3) n) (hf : f < pl_nf (re_b M 3)) (hv : ∀ i, M i < 256) (hC : ∀ i, pl_IS (re_b M 3) f i → ¬ pl_bad (re_b M 3) f i) (hJ : ∀ i, pl_IS (re_b M 3) f i → pl_jok (re_b M 3) f i)
    (kok : pl_Flow (re_b M 3) f → ∀ ywa : Nat → Int32, post 1 (yru, ypl, ynu, yps, yfi, yac, yre, yme, yrp, yrq, yrl, fun i => nI (M i), yle, ypr, ywa, ybp, ybq, ybo, ysc, yfn, yat, yhi, ylo, yen)) (kbad : ¬ pl_Flow (re_b M 3) f → ∀ ywa : Nat → Int32, post 0 (yru, nI (pl_s (re_b M 3) f), ynu, yps, nI 6, yac, yre, yme, yrp, yrq, yrl, fun i => nI (M i), yle, ypr, ywa, ybp, ybq, ybo, ysc, yfn, yat, yhi, ylo, yen)) :
    wpY_flows post (yru, ypl, ynu, yps, yfi, yac, yre, yme, yrp, yrq, yrl, fun i => nI (M i), yle, ypr, ywa, ybp, ybq, ybo, ysc, yfn, yat, yhi, ylo, yen) (nI f) := by
  have he := pl_ef hF hf
  have hh := pl_hf hF hf
  have hs : pl_s (re_b M 3) f < pl_e (re_b M 3) f := hh
  have hsl := pl_sl hF hf
  have h4 := hF.2.2.2.1
  have hi : ∀ i, i < f → pl_hd (re_b M 3) i + 2 < 120 := by
    intro i h
    have := pl_hd_le (re_b M 3) i f (by omega)
    omega
  have L : ∀ d x, ∀ ywa : Nat → Int32, x + d = 300 → wa_J (re_b M 3) f ywa → ¬ ywa 0 = 0 → (∀ R, pl_Good (re_b M 3) f R → wa_S (re_b M 3) f R ywa) → x ≤ wa_c ywa → wY_flows_34 post (nI f) (d + 1) 1 (nI x) yru ypl ynu yps yfi yac yre yme yrp yrq yrl (fun i => nI (M i)) yle ypr ywa ybp ybq ybo ysc yfn yat yhi ylo yen := by
    intro d
    induction d with
    | zero =>
      intro x ywa hx hJ h0 hS hc
      have := wa_cle ywa
      omega
    | succ d ih =>
      intro x ywa hx hJw h0 hS hc
      have hcl := wa_cle ywa
      refine br_f (nI_ge (b := 300) (by omega) (by decide)) (br_f (by decide) ?_)
      refine y_walk hn hF hf hv hC hJ hJw ⟨fun q w => ?_, fun q => ?_, fun w q1 q2 q3 q4 => ?_⟩
      · have K : wY_flows_57 post (nI f) (-1) yru ypl ynu yps yfi yac yre yme yrp yrq yrl (fun i => nI (M i)) yle ypr w ybp ybq ybo ysc yfn yat yhi ylo yen := by
          refine y_codeStart (p := 3) (by omega) (by omega) hF.1 hi (br_f (by decide) (br_t rfl ?_))
          rw [show nI (3 * 120 + pl_s (re_b M 3) f) - 360 = nI (pl_s (re_b M 3) f) from y_sub]
          exact kbad (fun ⟨R, hG⟩ => q R hG (hS R hG)) w
        refine nm_r (nI_1 x) (br_c (fun _ => K) fun _ => br_t (by decide) K)
      · have K : wY_flows_57 post (nI f) 0 yru ypl ynu yps yfi yac yre yme yrp yrq yrl (fun i => nI (M i)) yle ypr ywa ybp ybq ybo ysc yfn yat yhi ylo yen :=
          y_codeStart (p := 3) (by omega) (by omega) hF.1 hi (br_t (by decide) (kok (wa_flow hs hsl h0 q) ywa))
        refine nm_r (nI_1 x) (br_c (fun _ => K) fun _ => br_t (by decide) K)
      · exact nm_r (nI_1 x) (ih (x + 1) w (by omega) q1 (q2 0 h0) (fun R hG => q4 R hG (hS R hG)) (by omega))
  have Z : ∀ d x, ∀ ywa : Nat → Int32, x + d = 280 → (∀ k, k < x → (¬ ywa k = 0 ↔ k = 0)) → wY_flows_2 post (nI f) yru ypl ynu yps yfi yac yre yme (d + 1) (nI x) yrp yrq yrl (fun i => nI (M i)) yle ypr ywa ybp ybq ybo ysc yfn yat yhi ylo yen := by
    intro d
    induction d with
    | zero =>
      intro x ywa hx hz
      refine br_t (nI_le (a := 280) (by omega) (by omega)) ⟨301, L 300 0 ywa rfl (fun k hk hk0 => ?_) ((hz 0 (by omega)).mpr rfl) (fun R hG k hk hk0 => ?_) (by omega)⟩
      · rw [(hz k (by omega)).mp hk0]
        exact pl_IS0 (hF.2.2.2.2.1 f hf).2.2.1
      · rw [(hz k (by omega)).mp hk0]
        exact hG.1
    | succ d ih =>
      intro x ywa hx hz
      refine br_f (nI_ge (b := 280) (by omega) (by decide)) (pk_eq x 0 (fun e => ⟨vp_in_nI (by omega) (by omega), nm_r (show _ = upd ywa x 1 by rw [nI_clamp (by omega), ba_vb1]) (nm_r (nI_1 x) (ih (x + 1) _ (by omega) fun k hk => ?_))⟩) fun e => ⟨vp_in_nI (by omega) (by omega), nm_r (show _ = upd ywa x 0 by rw [nI_clamp (by omega), ba_vb0]) (nm_r (nI_1 x) (ih (x + 1) _ (by omega) fun k hk => ?_))⟩)
      · by_cases ek : k = x
        · subst ek; rw [pk_us]; exact ⟨fun _ => e, fun _ => ba_10⟩
        · omega
      · by_cases ek : k = x
        · subst ek; rw [pk_us]; exact ⟨fun q => absurd rfl q, fun q => absurd q e⟩
        · rw [pk_un ek]; exact hz k (by omega)
  exact ⟨_, Z 280 0 ywa rfl fun k hk => absurd hk (by omega)⟩
end C1
section C2
variable {r n : Nat} {pt M b : Nat → Nat} {xrc xbc xfc xrn xra xfi xfp xgn xac xlr : Int32} {xhm : Int64} {xrp xrA xrB xrC xby xhd xst xbg xco xen xre xld xim xic xih xif xop xbp xbq xsc xna xhe xlo xsk : Nat → Int32} {yru ypl ynu yps yfi yac yre : Int32} {yme : Int64} {yrp yrq yrl yby yle ypr ywa ybp ybq ybo ysc yfn yat yhi ylo yen : Nat → Int32}
/-- what the policy says of the i-th path -/
noncomputable def de_A (pt : Nat → Nat) (q A B C : Nat → Int32) (r : Nat) (b : Nat → Nat) (i : Nat) : Int32 := po_A pt q A B C r (nI (b (2 + 3 * i))) (nI (b (2 + 3 * i + 1))) (nI (b (2 + 3 * i + 2)))
def de_F (pt : Nat → Nat) (q A B C : Nat → Int32) (r : Nat) (b : Nat → Nat) (i : Nat) : Prop := i < b 1 ∧ de_A pt q A B C r b i = 0 ∧ ∀ j, j < i → ¬ de_A pt q A B C r b j = 0
theorem de_P {x : Nat} (h : x ≤ 7) : ru_P (nI x) := ⟨nI_pos (by omega), nI_nlt (a := 7) (by omega) (by omega)⟩
theorem x_denB {post : Int32 → Prop} (hr : r ≤ 12) (hR : ∀ i, i < r → pt i ≤ 3 ∧ (xrp i) >>> ((1 : Int32) &&& 31) = nI (pt i)) (h4 : b 1 ≤ 4) (hb : ∀ i, i < 120 → xby i = nI (b i))
    (k1 : ∀ i, de_F pt xrp xrA xrB xrC r b i → post (nI (2 + 3 * i))) (k0 : (∀ i, i < b 1 → ¬ de_A pt xrp xrA xrB xrC r b i = 0) → post (-1)) : wpX_firstDenied__bytes post (nI r, xbc, xfc, xrn, xra, xfi, xfp, xgn, xac, xlr, xhm, xrp, xrA, xrB, xrC, xby, xhd, xst, xbg, xco, xen, xre, xld, xim, xic, xih, xif, xop, xbp, xbq, xsc, xna, xhe, xlo, xsk) 0 := by
  unfold wpX_firstDenied__bytes
  dsimp only
  rw [show (0 : Int32) + 1 = nI 1 from by decide, nI_clamp (by omega), hb 1 (by omega)]
  refine ⟨vp_in_nI (by omega) (by omega), nm_e ⟨b 1 + 1, ?_⟩⟩
  have L : ∀ d i, i + d = b 1 → (∀ j, j < i → ¬ de_A pt xrp xrA xrB xrC r b j = 0) → wX_firstDenied__bytes_9 post 0 (nI (b 1)) (nI r) xbc xfc xrn xra xfi xfp xgn xac xlr xhm xrp xrA xrB xrC xby xhd xst xbg xco xen xre xld xim xic xih xif xop xbp xbq xsc xna xhe xlo xsk (d + 1) (nI i) := by
    intro d
    induction d with
    | zero =>
      intro i hi hj
      exact br_t (nI_le (by omega) (by omega)) (k0 fun j h => hj j (by omega))
    | succ d ih =>
      intro i hi hj
      refine br_f (nI_ge (by omega) (by omega)) (nm_r (e' := nI (2 + 3 * i)) ?_ ?_)
      · rw [show 3 * nI i = nI (3 * i) from pk_mul 3 i, show 2 + nI (3 * i) = nI (2 + 3 * i) from nI_add 2 _]
      rw [show 0 + nI (2 + 3 * i) = nI (2 + 3 * i) from Int32.zero_add _, show nI (2 + 3 * i) + 1 = nI (2 + 3 * i + 1) from nI_1 _, show nI (2 + 3 * i) + 2 = nI (2 + 3 * i + 2) from nI_add _ 2, nI_clamp (by omega), nI_clamp (by omega), nI_clamp (by omega), hb _ (by omega), hb _ (by omega), hb _ (by omega)]
      refine ⟨vp_in_nI (by omega) (by omega), vp_in_nI (by omega) (by omega), vp_in_nI (by omega) (by omega), x_permits hr hR (br_c (fun z => k1 i ⟨by omega, z, hj⟩) fun z => nm_r (nI_1 i) (ih (i + 1) (by omega) fun j h => ?_))⟩
      by_cases e : j = i
      · subst e; exact z
      · exact hj j (by omega)
  exact L (b 1) 0 (by omega) fun j h => absurd h (by omega)
theorem x_denI {post : Int32 → Prop} {p : Nat} (hp : p < 3) (hr : r ≤ 12) (hR : ∀ i, i < r → pt i ≤ 3 ∧ (xrp i) >>> ((1 : Int32) &&& 31) = nI (pt i)) (h4 : b 1 ≤ 4) (hb : ∀ i, i < 120 → xim (p * 120 + i) = nI (b i))
    (k1 : ∀ i, de_F pt xrp xrA xrB xrC r b i → post (nI (2 + 3 * i))) (k0 : (∀ i, i < b 1 → ¬ de_A pt xrp xrA xrB xrC r b i = 0) → post (-1)) : wpX_firstDenied__image post (nI r, xbc, xfc, xrn, xra, xfi, xfp, xgn, xac, xlr, xhm, xrp, xrA, xrB, xrC, xby, xhd, xst, xbg, xco, xen, xre, xld, xim, xic, xih, xif, xop, xbp, xbq, xsc, xna, xhe, xlo, xsk) (nI (p * 120)) := by
  unfold wpX_firstDenied__image
  dsimp only
  rw [nI_1, nI_clamp (by omega), hb 1 (by omega)]
  refine ⟨vp_in_nI (by omega) (by omega), nm_e ⟨b 1 + 1, ?_⟩⟩
  have L : ∀ d i, i + d = b 1 → (∀ j, j < i → ¬ de_A pt xrp xrA xrB xrC r b j = 0) → wX_firstDenied__image_9 post (nI (p * 120)) (nI (b 1)) (nI r) xbc xfc xrn xra xfi xfp xgn xac xlr xhm xrp xrA xrB xrC xby xhd xst xbg xco xen xre xld xim xic xih xif xop xbp xbq xsc xna xhe xlo xsk (d + 1) (nI i) := by
    intro d
    induction d with
    | zero =>
      intro i hi hj
      exact br_t (nI_le (by omega) (by omega)) (k0 fun j h => hj j (by omega))
    | succ d ih =>
      intro i hi hj
      refine br_f (nI_ge (by omega) (by omega)) (nm_r (e' := nI (2 + 3 * i)) ?_ ?_)
      · rw [show 3 * nI i = nI (3 * i) from pk_mul 3 i, show 2 + nI (3 * i) = nI (2 + 3 * i) from nI_add 2 _]
      rw [nI_add, show nI (p * 120 + (2 + 3 * i)) + 1 = nI (p * 120 + (2 + 3 * i + 1)) from nI_1 _, show nI (p * 120 + (2 + 3 * i)) + 2 = nI (p * 120 + (2 + 3 * i + 2)) from nI_add _ 2, nI_clamp (by omega), nI_clamp (by omega), nI_clamp (by omega), hb _ (by omega), hb _ (by omega), hb _ (by omega)]
      refine ⟨vp_in_nI (by omega) (by omega), vp_in_nI (by omega) (by omega), vp_in_nI (by omega) (by omega), x_permits hr hR (br_c (fun z => k1 i ⟨by omega, z, hj⟩) fun z => nm_r (nI_1 i) (ih (i + 1) (by omega) fun j h => ?_))⟩
      by_cases e : j = i
      · subst e; exact z
      · exact hj j (by omega)
  exact L (b 1) 0 (by omega) fun j h => absurd h (by omega)
theorem y_denied {post : Int32 → Prop} {p : Nat} (hp : p ≤ 3) (hR : re_RU r pt xrp xrA xrB xrC yrp yrq yrl) (h4 : re_b M p 1 ≤ 4) (h7 : ∀ i, i < 3 * re_b M p 1 → re_b M p (2 + i) ≤ 7)
    (k1 : ∀ i, de_F pt xrp xrA xrB xrC r (re_b M p) i → post (nI i)) (k0 : (∀ i, i < re_b M p 1 → ¬ de_A pt xrp xrA xrB xrC r (re_b M p) i = 0) → post (-1)) : wpY_denied post (nI r, ypl, ynu, yps, yfi, yac, yre, yme, yrp, yrq, yrl, fun i => nI (M i), yle, ypr, ywa, ybp, ybq, ybo, ysc, yfn, yat, yhi, ylo, yen) (nI p) := by
  unfold wpY_denied
  dsimp only
  refine y_imports hp (nm_r (e' := nI (p * 120 + 2)) ?_ ⟨re_b M p 1 + 1, ?_⟩)
  · rw [show nI p * 120 = nI (p * 120) from pk_mul p 120, show nI (p * 120) + 2 = nI (p * 120 + 2) from nI_add _ 2]
  have L : ∀ d i, i + d = re_b M p 1 → (∀ j, j < i → ¬ de_A pt xrp xrA xrB xrC r (re_b M p) j = 0) → wY_denied_16 post (nI (re_b M p 1)) (nI (p * 120 + 2)) (nI r) ypl ynu yps yfi yac yre yme yrp yrq yrl (fun i => nI (M i)) yle ypr ywa ybp ybq ybo ysc yfn yat yhi ylo yen (d + 1) (nI i) := by
    intro d
    induction d with
    | zero =>
      intro i hi hj
      exact br_t (nI_le (by omega) (by omega)) (k0 fun j h => hj j (by omega))
    | succ d ih =>
      intro i hi hj
      refine br_f (nI_ge (by omega) (by omega)) ?_
      have e0 : nI (p * 120 + 2) + nI i * 3 = nI (p * 120 + (2 + 3 * i)) := by
        rw [show nI i * 3 = nI (i * 3) from pk_mul i 3, nI_add]
        exact congrArg nI (by omega)
      have h8 := h7 (3 * i) (by omega)
      have h9 := h7 (3 * i + 1) (by omega)
      have h10 := h7 (3 * i + 2) (by omega)
      rw [e0, show nI (p * 120 + (2 + 3 * i)) + 1 = nI (p * 120 + (2 + 3 * i + 1)) from nI_1 _, show nI (p * 120 + (2 + 3 * i)) + 2 = nI (p * 120 + (2 + 3 * i + 2)) from nI_add _ 2]
      refine ⟨vp_in_nI (by omega) (by omega), vp_in_nI (by omega) (by omega), vp_in_nI (by omega) (by omega), ?_⟩
      rw [y_by hp (show 2 + 3 * i < 120 by omega), y_by hp (show 2 + 3 * i + 1 < 120 by omega), y_by hp (show 2 + 3 * i + 2 < 120 by omega)]
      refine y_allows hR (de_P h8) (de_P h9) (de_P h10) (br_c (fun z => k1 i ⟨by omega, z, hj⟩) fun z => nm_r (nI_1 i) (ih (i + 1) (by omega) fun j h => ?_))
      by_cases e : j = i
      · subst e; exact z
      · exact hj j (by omega)
  exact L (re_b M p 1) 0 (by omega) fun j h => absurd h (by omega)
end C2
