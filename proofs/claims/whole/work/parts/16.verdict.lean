section C3
variable {r n : Nat} {pt M b : Nat → Nat} {xrc xbc xfc xrn xra xfi xfp xgn xac xlr : Int32} {xhm : Int64} {xrp xrA xrB xrC xby xhd xst xbg xco xen xre xld xim xic xih xif xop xbp xbq xsc xna xhe xlo xsk : Nat → Int32} {yru ypl ynu yps yfi yac yre : Int32} {yme : Int64} {yrp yrq yrl yby yle ypr ywa ybp ybq ybo ysc yfn yat yhi ylo yen : Nat → Int32}
/-! the verdict on a plugin's bytes: one (finding, place) -/
def vd_B (b : Nat → Nat) : Prop := ∀ f, f < pl_nf b → ∀ i, pl_IS b f i → ¬ pl_bad b f i
def vd_J (b : Nat → Nat) : Prop := ∀ f, f < pl_nf b → ∀ i, pl_IS b f i → pl_jok b f i
def vd_F (b : Nat → Nat) : Prop := ∀ f, f < pl_nf b → pl_Flow b f
def vd_W (b : Nat → Nat) (pl : Nat) : Prop := ∃ f, f < pl_nf b ∧ ¬ pl_Flow b f ∧ (∀ g, g < f → pl_Flow b g) ∧ pl = pl_s b f
def vd_R (b : Nat → Nat) (n : Nat) (D : Nat → Prop) (w pl : Nat) : Prop :=
  ((ff_v b n).1 ≠ 0 ∧ w = (ff_v b n).1 ∧ pl = (ff_v b n).2) ∨
  ((ff_v b n).1 = 0 ∧ pl_FBA b pl ∧ w = 4) ∨
  ((ff_v b n).1 = 0 ∧ vd_B b ∧ pl_FJA b pl ∧ w = 5) ∨
  ((ff_v b n).1 = 0 ∧ vd_B b ∧ vd_J b ∧ vd_W b pl ∧ w = 6) ∨
  ((ff_v b n).1 = 0 ∧ vd_B b ∧ vd_J b ∧ vd_F b ∧ (∃ i, D i ∧ pl = 2 + 3 * i) ∧ w = 7) ∨
  ((ff_v b n).1 = 0 ∧ vd_B b ∧ vd_J b ∧ vd_F b ∧ (∀ i, ¬ D i) ∧ w = 0 ∧ pl = 0)
theorem vd_xB {p : Nat} (h : pl_FBA b p) (h' : vd_B b) : False := by
  obtain ⟨f, hf, hF, _⟩ := h
  exact h' f hf p hF.1 hF.2.1
theorem vd_xJ {p : Nat} (h : pl_FJA b p) (h' : vd_J b) : False := by
  obtain ⟨f, hf, hF, _⟩ := h
  exact hF.2.1 (h' f hf p hF.1)
theorem vd_xF {p : Nat} (h : vd_W b p) (h' : vd_F b) : False := by
  obtain ⟨f, hf, hF, _⟩ := h
  exact hF (h' f hf)
theorem vd_uB {p q : Nat} (h : pl_FBA b p) (h' : pl_FBA b q) : p = q := by
  obtain ⟨f, hf, hF, hg⟩ := h
  obtain ⟨f', hf', hF', hg'⟩ := h'
  by_cases e : f = f'
  · subst e
    by_cases e1 : p < q
    · exact absurd hF.2.1 (hF'.2.2 p e1 hF.1)
    · by_cases e2 : q < p
      · exact absurd hF'.2.1 (hF.2.2 q e2 hF'.1)
      · omega
  · by_cases e1 : f < f'
    · exact absurd hF.2.1 (hg' f e1 p hF.1)
    · exact absurd hF'.2.1 (hg f' (by omega) q hF'.1)
theorem vd_uJ {p q : Nat} (h : pl_FJA b p) (h' : pl_FJA b q) : p = q := by
  obtain ⟨f, hf, hF, hg⟩ := h
  obtain ⟨f', hf', hF', hg'⟩ := h'
  by_cases e : f = f'
  · subst e
    by_cases e1 : p < q
    · exact absurd (hF'.2.2 p e1 hF.1) hF.2.1
    · by_cases e2 : q < p
      · exact absurd (hF.2.2 q e2 hF'.1) hF'.2.1
      · omega
  · by_cases e1 : f < f'
    · exact absurd (hg' f e1 p hF.1) hF.2.1
    · exact absurd (hg f' (by omega) q hF'.1) hF'.2.1
theorem vd_uW {p q : Nat} (h : vd_W b p) (h' : vd_W b q) : p = q := by
  obtain ⟨f, hf, hF, hg, rfl⟩ := h
  obtain ⟨f', hf', hF', hg', rfl⟩ := h'
  by_cases e : f = f'
  · rw [e]
  · by_cases e1 : f < f'
    · exact absurd (hg' f e1) hF
    · exact absurd (hg f' (by omega)) hF'
theorem vd_u {D : Nat → Prop} (hD : ∀ i j, D i → D j → i = j) {w w' p p' : Nat} (h : vd_R b n D w p) (h' : vd_R b n D w' p') : w = w' ∧ p = p' := by
  rcases h with ⟨z, e1, e2⟩ | ⟨z, x1, e1⟩ | ⟨z, x1, x2, e1⟩ | ⟨z, x1, x2, x3, e1⟩ | ⟨z, x1, x2, x3, x4, e1⟩ | ⟨z, x1, x2, x3, x4, e1, e2⟩
  · rcases h' with ⟨z', e1', e2'⟩ | ⟨z', x1', e1'⟩ | ⟨z', x1', x2', e1'⟩ | ⟨z', x1', x2', x3', e1'⟩ | ⟨z', x1', x2', x3', x4', e1'⟩ | ⟨z', x1', x2', x3', x4', e1', e2'⟩
    · exact ⟨by omega, by omega⟩
    · exact absurd z' z
    · exact absurd z' z
    · exact absurd z' z
    · exact absurd z' z
    · exact absurd z' z
  · rcases h' with ⟨z', e1', e2'⟩ | ⟨z', x1', e1'⟩ | ⟨z', x1', x2', e1'⟩ | ⟨z', x1', x2', x3', e1'⟩ | ⟨z', x1', x2', x3', x4', e1'⟩ | ⟨z', x1', x2', x3', x4', e1', e2'⟩
    · exact absurd z z'
    · exact ⟨by omega, vd_uB x1 x1'⟩
    · exact (vd_xB x1 x1').elim
    · exact (vd_xB x1 x1').elim
    · exact (vd_xB x1 x1').elim
    · exact (vd_xB x1 x1').elim
  · rcases h' with ⟨z', e1', e2'⟩ | ⟨z', x1', e1'⟩ | ⟨z', x1', x2', e1'⟩ | ⟨z', x1', x2', x3', e1'⟩ | ⟨z', x1', x2', x3', x4', e1'⟩ | ⟨z', x1', x2', x3', x4', e1', e2'⟩
    · exact absurd z z'
    · exact (vd_xB x1' x1).elim
    · exact ⟨by omega, vd_uJ x2 x2'⟩
    · exact (vd_xJ x2 x2').elim
    · exact (vd_xJ x2 x2').elim
    · exact (vd_xJ x2 x2').elim
  · rcases h' with ⟨z', e1', e2'⟩ | ⟨z', x1', e1'⟩ | ⟨z', x1', x2', e1'⟩ | ⟨z', x1', x2', x3', e1'⟩ | ⟨z', x1', x2', x3', x4', e1'⟩ | ⟨z', x1', x2', x3', x4', e1', e2'⟩
    · exact absurd z z'
    · exact (vd_xB x1' x1).elim
    · exact (vd_xJ x2' x2).elim
    · exact ⟨by omega, vd_uW x3 x3'⟩
    · exact (vd_xF x3 x3').elim
    · exact (vd_xF x3 x3').elim
  · rcases h' with ⟨z', e1', e2'⟩ | ⟨z', x1', e1'⟩ | ⟨z', x1', x2', e1'⟩ | ⟨z', x1', x2', x3', e1'⟩ | ⟨z', x1', x2', x3', x4', e1'⟩ | ⟨z', x1', x2', x3', x4', e1', e2'⟩
    · exact absurd z z'
    · exact (vd_xB x1' x1).elim
    · exact (vd_xJ x2' x2).elim
    · exact (vd_xF x3' x3).elim
    · obtain ⟨i, d, e⟩ := x4; obtain ⟨j, d', e'⟩ := x4'; have := hD i j d d'; exact ⟨by omega, by omega⟩
    · obtain ⟨i, d, e⟩ := x4; exact (x4' i d).elim
  · rcases h' with ⟨z', e1', e2'⟩ | ⟨z', x1', e1'⟩ | ⟨z', x1', x2', e1'⟩ | ⟨z', x1', x2', x3', e1'⟩ | ⟨z', x1', x2', x3', x4', e1'⟩ | ⟨z', x1', x2', x3', x4', e1', e2'⟩
    · exact absurd z z'
    · exact (vd_xB x1' x1).elim
    · exact (vd_xJ x2' x2).elim
    · exact (vd_xF x3' x3).elim
    · obtain ⟨i, d, e⟩ := x4'; exact (x4 i d).elim
    · exact ⟨by omega, by omega⟩
theorem de_u {q A B C : Nat → Int32} (i j : Nat) (h : de_F pt q A B C r b i) (h' : de_F pt q A B C r b j) : i = j := by
  by_cases e1 : i < j
  · exact absurd h.2.1 (h'.2.2 i e1)
  · by_cases e2 : j < i
    · exact absurd h'.2.1 (h.2.2 j e2)
    · omega
theorem x_submit {post : Int32 → SX → Prop} (hn : n ≤ 120) (hb : ∀ i, i < 120 → xby i = nI (b i)) (hv : ∀ i, b i < 256) (hr : r ≤ 12) (hR : ∀ i, i < r → pt i ≤ 3 ∧ (xrp i) >>> ((1 : Int32) &&& 31) = nI (pt i))
    (kf : ∀ w pl, vd_R b n (de_F pt xrp xrA xrB xrC r b) w pl → ¬ nI w = 0 → ∀ (xfc xrn xra : Int32) (xhd xst xen xre : Nat → Int32), post (nI w) (nI r, nI n, xfc, xrn, xra, nI w, nI pl, -1, xac, xlr, xhm, xrp, xrA, xrB, xrC, xby, xhd, xst, xbg, xco, xen, xre, xld, xim, xic, xih, xif, xop, xbp, xbq, xsc, xna, xhe, xlo, xsk))
    (ka : vd_R b n (de_F pt xrp xrA xrB xrC r b) 0 0 → pl_WF b n → ∀ (xrn xra : Int32) (xhd xst xen xre : Nat → Int32), (∀ f, f < pl_nf b → xhd f = nI (pl_hd b f)) → pl_ST b (pl_nf b) 0 xst →
      wpX_admit (fun u => post u.2.2.2.2.2.1 u) (nI r, nI n, nI (pl_nf b), xrn, xra, 0, -1, -1, xac, xlr, xhm, xrp, xrA, xrB, xrC, xby, xhd, xst, xbg, xco, xen, xre, xld, xim, xic, xih, xif, xop, xbp, xbq, xsc, xna, xhe, xlo, xsk)) :
    wpX_submit post (nI r, nI n, xfc, xrn, xra, xfi, xfp, xgn, xac, xlr, xhm, xrp, xrA, xrB, xrC, xby, xhd, xst, xbg, xco, xen, xre, xld, xim, xic, xih, xif, xop, xbp, xbq, xsc, xna, xhe, xlo, xsk) := by
  unfold wpX_submit
  dsimp only
  refine x_format (b := b) hn hb hv ⟨fun v0 xfc xra xhd ef eh => ?_, fun v0 xfc xra xhd => ?_⟩
  · subst ef
    have hF := ff_v0 v0
    refine br_t rfl ?_
    refine x_codes (b := b) hn hF eh hb hv (fun i hi xst => ?_) fun hB xst hS => ?_
    · have z : ¬ nI 4 = 0 := by decide
      have K := kf 4 i (Or.inr (Or.inl ⟨v0, hi, rfl⟩)) z
      exact br_f z (br_f z (br_f z (br_f z (K _ _ _ _ _ _ _))))
    refine br_t rfl ?_
    refine x_jumps (b := b) hn hF eh hb hv hS hB (fun i hi => ?_) fun hJ => ?_
    · have z : ¬ nI 5 = 0 := by decide
      have K := kf 5 i (Or.inr (Or.inr (Or.inl ⟨v0, hB, hi, rfl⟩))) z
      exact br_f z (br_f z (br_f z (K _ _ _ _ _ _ _)))
    refine br_t rfl ?_
    refine x_flows (b := b) hn hF eh hb hv hB hJ (fun f hf hW hg xrn xen xre => ?_) fun hW xrn xen xre => ?_
    · have z : ¬ nI 6 = 0 := by decide
      have K := kf 6 (pl_s b f) (Or.inr (Or.inr (Or.inr (Or.inl ⟨v0, hB, hJ, ⟨f, hf, hW, hg, rfl⟩, rfl⟩)))) z
      exact br_f z (br_f z (K _ _ _ _ _ _ _))
    refine br_t rfl ?_
    unfold wpX_checkImports
    dsimp only
    refine x_denB (b := b) hr hR hF.1 hb (fun i hi => ?_) fun hD => ?_
    · have K := kf 7 (2 + 3 * i) (Or.inr (Or.inr (Or.inr (Or.inr (Or.inl ⟨v0, hB, hJ, hW, ⟨i, hi, rfl⟩, rfl⟩))))) (by decide)
      have z : ¬ nI 7 = 0 := by decide
      have h4 := hF.1
      have hi1 := hi.1
      exact br_f (ba_m1ne (by omega)) (br_f z (K _ _ _ _ _ _ _))
    · refine br_t rfl (br_t rfl ?_)
      exact ka (Or.inr (Or.inr (Or.inr (Or.inr (Or.inr ⟨v0, hB, hJ, hW, fun i hi => hD i hi.1 hi.2.1, rfl, rfl⟩))))) ⟨hn, hF, fun f hf => ⟨hB f hf, hJ f hf, hW f hf⟩⟩ _ _ _ _ _ _ eh hS
  · have hw3 : (ff_v b n).1 ≤ 3 := by
      have s3 : ∀ a lo hi k, k.1 ≤ 3 → (ff_s b n a lo hi k).1 ≤ 3 := by
        intro a lo hi k hk
        rcases ff_c b n a lo hi k with ⟨_, _, _, e⟩ | ⟨_, e⟩ | ⟨_, _, e⟩
        · rw [e]; exact hk
        · rw [e]; show 1 ≤ 3; decide
        · rw [e]; show 2 ≤ 3; decide
      have f3 : ∀ d f, (ff_fn b n d f).1 ≤ 3 := by
        intro d
        induction d with
        | zero =>
          intro f
          unfold ff_fn
          split
          · show 0 ≤ 3; omega
          · show 3 ≤ 3; omega
        | succ d ih =>
          intro f
          unfold ff_fn
          refine s3 _ _ _ _ (s3 _ _ _ _ (s3 _ _ _ _ ?_))
          split
          · show 1 ≤ 3; omega
          · exact ih _
      have i3 : ∀ d i, (ff_im b n d i).1 ≤ 3 := by
        intro d
        induction d with
        | zero => intro i; exact s3 _ _ _ _ (f3 _ _)
        | succ d ih => intro i; exact s3 _ _ _ _ (ih _)
      exact s3 _ _ _ _ (s3 _ _ _ _ (i3 _ _))
    have z : ¬ nI (ff_v b n).1 = 0 := nI_ne0 (by omega) (by omega)
    have K := kf _ _ (Or.inl ⟨v0, rfl, rfl⟩) z
    exact br_f z (br_f z (br_f z (br_f z (br_f z (K _ _ _ _ _ _ _)))))
end C3
section C4
variable {r n : Nat} {pt M b : Nat → Nat} {xrc xbc xfc xrn xra xfi xfp xgn xac xlr : Int32} {xhm : Int64} {xrp xrA xrB xrC xby xhd xst xbg xco xen xre xld xim xic xih xif xop xbp xbq xsc xna xhe xlo xsk : Nat → Int32} {yru ypl ynu yps yfi yac yre : Int32} {yme : Int64} {yrp yrq yrl yby yle ypr ywa ybp ybq ybo ysc yfn yat yhi ylo yen : Nat → Int32}
theorem y_checked {post : Int32 → SY → Prop} (hn : n ≤ 120) (hl : yle 3 = nI n) (hv : ∀ i, M i < 256) (hR : re_RU r pt xrp xrA xrB xrC yrp yrq yrl)
    (kf : ∀ w pl, vd_R (re_b M 3) n (de_F pt xrp xrA xrB xrC r (re_b M 3)) w pl → w ≠ 0 → ∀ (yps : Int32) (ywa : Nat → Int32), post 0 (nI r, nI pl, ynu, yps, nI w, yac, yre, yme, yrp, yrq, yrl, fun i => nI (M i), yle, ypr, ywa, ybp, ybq, ybo, ysc, yfn, yat, yhi, ylo, yen))
    (ka : vd_R (re_b M 3) n (de_F pt xrp xrA xrB xrC r (re_b M 3)) 0 0 → ∀ (yps : Int32) (ywa : Nat → Int32), post 1 (nI r, ypl, ynu, yps, yfi, yac, yre, yme, yrp, yrq, yrl, fun i => nI (M i), yle, ypr, ywa, ybp, ybq, ybo, ysc, yfn, yat, yhi, ylo, yen)) :
    wpY_checked post (nI r, ypl, ynu, yps, yfi, yac, yre, yme, yrp, yrq, yrl, fun i => nI (M i), yle, ypr, ywa, ybp, ybq, ybo, ysc, yfn, yat, yhi, ylo, yen) := by
  unfold wpY_checked
  dsimp only
  refine y_format hn hl hv ⟨fun v0 yps => br_f ba_10 ?_, fun v0 yps => br_t rfl (kf _ _ (Or.inl ⟨v0, rfl, rfl⟩) v0 _ _)⟩
  have hF := ff_v0 v0
  have h4 := hF.2.2.2.1
  refine y_functions (p := 3) (by omega) hF.1 ⟨pl_nf (re_b M 3) + 1, ?_⟩
  have L3 : vd_B (re_b M 3) → vd_J (re_b M 3) → ∀ d f, ∀ ywa : Nat → Int32, f + d = pl_nf (re_b M 3) → (∀ g, g < f → pl_Flow (re_b M 3) g) → wY_checked_63 post (nI (pl_nf (re_b M 3))) (d + 1) (nI f) (nI r) ypl ynu yps yfi yac yre yme yrp yrq yrl (fun i => nI (M i)) yle ypr ywa ybp ybq ybo ysc yfn yat yhi ylo yen := by
    intro hB hJ d
    induction d with
    | zero =>
      intro f ywa hf hg
      have : f = pl_nf (re_b M 3) := by omega
      subst this
      refine br_t (nI_le (Nat.le_refl _) (by omega)) (y_denied (p := 3) (by omega) hR hF.1 hF.2.1 (fun i hi => br_f (nI_pos (by have := hi.1; have := hF.1; omega)) (br_t rfl ?_)) fun hD => br_t ba_m1lt ?_)
      · rw [show 2 + nI i * 3 = nI (2 + 3 * i) by rw [show nI i * 3 = nI (i * 3) from pk_mul i 3, show 2 + nI (i * 3) = nI (2 + i * 3) from nI_add 2 _, Nat.mul_comm]]
        exact kf 7 (2 + 3 * i) (Or.inr (Or.inr (Or.inr (Or.inr (Or.inl ⟨v0, hB, hJ, hg, ⟨i, hi, rfl⟩, rfl⟩))))) (by omega) _ _
      · exact ka (Or.inr (Or.inr (Or.inr (Or.inr (Or.inr ⟨v0, hB, hJ, hg, fun i hi => hD i hi.1 hi.2.1, rfl, rfl⟩))))) _ _
    | succ d ih =>
      intro f ywa hf hg
      refine br_f (nI_ge (by omega) (by omega)) (y_flow hn hF (by omega) hv (hB f (by omega)) (hJ f (by omega)) (fun q ywa' => br_f ba_10 (nm_r (nI_1 f) (ih (f + 1) ywa' (by omega) fun g hg' => ?_))) fun q ywa' => br_t rfl ?_)
      · by_cases e : g = f
        · subst e; exact q
        · exact hg g (by omega)
      · exact kf 6 (pl_s (re_b M 3) f) (Or.inr (Or.inr (Or.inr (Or.inl ⟨v0, hB, hJ, ⟨f, by omega, q, hg, rfl⟩, rfl⟩)))) (by omega) _ _
  have L2 : vd_B (re_b M 3) → ∀ d f, f + d = pl_nf (re_b M 3) → (∀ g, g < f → ∀ j, pl_IS (re_b M 3) g j → pl_jok (re_b M 3) g j) → wY_checked_40 post (nI (pl_nf (re_b M 3))) (d + 1) (nI f) (nI r) ypl ynu yps yfi yac yre yme yrp yrq yrl (fun i => nI (M i)) yle ypr ywa ybp ybq ybo ysc yfn yat yhi ylo yen := by
    intro hB d
    induction d with
    | zero =>
      intro f hf hg
      have : f = pl_nf (re_b M 3) := by omega
      subst this
      exact br_t (nI_le (Nat.le_refl _) (by omega)) ⟨_, L3 hB hg (pl_nf (re_b M 3)) 0 _ (by omega) fun g h => absurd h (by omega)⟩
    | succ d ih =>
      intro f hf hg
      refine br_f (nI_ge (by omega) (by omega)) (y_jumps hn hF (by omega) hv (hB f (by omega)) (fun i hi => br_t rfl ?_) fun q => br_f ba_10 (nm_r (nI_1 f) (ih (f + 1) (by omega) fun g hg' => ?_)))
      · exact kf 5 i (Or.inr (Or.inr (Or.inl ⟨v0, hB, ⟨f, by omega, hi, hg⟩, rfl⟩))) (by omega) _ _
      · by_cases e : g = f
        · subst e; exact q
        · exact hg g (by omega)
  have L1 : ∀ d f, f + d = pl_nf (re_b M 3) → (∀ g, g < f → ∀ j, pl_IS (re_b M 3) g j → ¬ pl_bad (re_b M 3) g j) → wY_checked_17 post (nI (pl_nf (re_b M 3))) (d + 1) (nI f) (nI r) ypl ynu yps yfi yac yre yme yrp yrq yrl (fun i => nI (M i)) yle ypr ywa ybp ybq ybo ysc yfn yat yhi ylo yen := by
    intro d
    induction d with
    | zero =>
      intro f hf hg
      have : f = pl_nf (re_b M 3) := by omega
      subst this
      exact br_t (nI_le (Nat.le_refl _) (by omega)) ⟨_, L2 hg (pl_nf (re_b M 3)) 0 (by omega) fun g h => absurd h (by omega)⟩
    | succ d ih =>
      intro f hf hg
      refine br_f (nI_ge (by omega) (by omega)) (y_codes hn hF (by omega) hv (fun i hi => br_t rfl ?_) fun q => br_f ba_10 (nm_r (nI_1 f) (ih (f + 1) (by omega) fun g hg' => ?_)))
      · exact kf 4 i (Or.inr (Or.inl ⟨v0, ⟨f, by omega, hi, hg⟩, rfl⟩)) (by omega) _ _
      · by_cases e : g = f
        · subst e; exact q
        · exact hg g (by omega)
  exact L1 (pl_nf (re_b M 3)) 0 (by omega) fun g h => absurd h (by omega)
end C4
