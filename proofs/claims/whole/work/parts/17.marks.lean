section C5
variable {r n : Nat} {pt M b : Nat → Nat} {xrc xbc xfc xrn xra xfi xfp xgn xac xlr : Int32} {xhm : Int64} {xrp xrA xrB xrC xby xhd xst xbg xco xen xre xld xim xic xih xif xop xbp xbq xsc xna xhe xlo xsk : Nat → Int32} {yru ypl ynu yps yfi yac yre : Int32} {yme : Int64} {yrp yrq yrl yby yle ypr ywa ybp ybq ybo ysc yfn yat yhi ylo yen : Nat → Int32}
/-! where blocks begin -/
def mb_S (b : Nat → Nat) (g : Nat → Int32) : Prop := ∀ j, j < 120 → ¬ g j = 0 → ∃ f, f < pl_nf b ∧ pl_s b f ≤ j ∧ j < pl_e b f ∧ pl_L b f j
def mb_m (b : Nat → Nat) (f : Nat) (g : Nat → Int32) (i : Nat) : Prop :=
  ((b i = 10 ∨ b i = 11) → ∀ j : Nat, pl_tg b i = (j : Int) → ¬ g j = 0) ∧ ((10 ≤ b i ∧ b i ≤ 13) → i + 2 < pl_e b f → ¬ g (i + 2) = 0) ∧ (b i = 16 → i + 1 < pl_e b f → ¬ g (i + 1) = 0)
def mb_M (g g' : Nat → Int32) : Prop := ∀ j, ¬ g j = 0 → ¬ g' j = 0
def mb_G (b : Nat → Nat) (g : Nat → Int32) : Prop := ∀ j, j < 120 → (¬ g j = 0 ↔ ∃ f, f < pl_nf b ∧ pl_s b f ≤ j ∧ j < pl_e b f ∧ pl_L b f j)
theorem mb_up (g : Nat → Int32) (k : Nat) : mb_M g (upd g k 1) := by
  intro j h
  by_cases e : j = k
  · subst e; rw [pk_us]; exact ba_10
  · rw [pk_un e]; exact h
theorem mb_mm {f i : Nat} {g g' : Nat → Int32} (h : mb_M g g') (hm : mb_m b f g i) : mb_m b f g' i :=
  ⟨fun c j e => h _ (hm.1 c j e), fun c e => h _ (hm.2.1 c e), fun c e => h _ (hm.2.2 c e)⟩
theorem mb_Su {f k : Nat} {g : Nat → Int32} (h : mb_S b g) (hf : f < pl_nf b) (h1 : pl_s b f ≤ k) (h2 : k < pl_e b f) (hL : pl_L b f k) : mb_S b (upd g k 1) := by
  intro j hj hz
  by_cases e : j = k
  · subst e; exact ⟨f, hf, h1, h2, hL⟩
  · rw [pk_un e] at hz; exact h j hj hz
theorem x_ends {post : Int32 → Prop} {c : Nat} (hc : c < 256) (k1 : (c = 10 ∨ c = 11 ∨ c = 12 ∨ c = 13 ∨ c = 16) → post 1) (k0 : ¬ (c = 10 ∨ c = 11 ∨ c = 12 ∨ c = 13 ∨ c = 16) → post 0) : wpX_endsBlock post (xrc, xbc, xfc, xrn, xra, xfi, xfp, xgn, xac, xlr, xhm, xrp, xrA, xrB, xrC, xby, xhd, xst, xbg, xco, xen, xre, xld, xim, xic, xih, xif, xop, xbp, xbq, xsc, xna, xhe, xlo, xsk) (nI c) := by
  unfold wpX_endsBlock
  dsimp only
  refine x_isJump hc (fun h => br_f ba_10 (k1 (by omega))) fun h => br_t rfl ?_
  exact pk_eq c 12 (fun h1 => k1 (by omega)) fun h1 => pk_eq c 13 (fun h2 => k1 (by omega)) fun h2 => pk_eq c 16 (fun h3 => k1 (by omega)) fun h3 => k0 (by omega)
theorem x_around34 {post : SX → Prop} {f i : Nat} (hn : n ≤ 120) (hF : pl_Fmt b n) (hf : f < pl_nf b) (hv : ∀ i, b i < 256) (hI : pl_IS b f i) (bad : ¬ pl_bad b f i) (hS : mb_S b xbg)
    (k : ∀ xbg' : Nat → Int32, mb_S b xbg' → mb_M xbg xbg' → ((10 ≤ b i ∧ b i ≤ 13) → i + 2 < pl_e b f → ¬ xbg' (i + 2) = 0) → (b i = 16 → i + 1 < pl_e b f → ¬ xbg' (i + 1) = 0) → post (xrc, xbc, xfc, xrn, xra, xfi, xfp, xgn, xac, xlr, xhm, xrp, xrA, xrB, xrC, xby, xhd, xst, xbg', xco, xen, xre, xld, xim, xic, xih, xif, xop, xbp, xbq, xsc, xna, xhe, xlo, xsk)) :
    wX_markAround_34 post (nI i) (nI (pl_e b f)) (nI (b i)) xrc xbc xfc xrn xra xfi xfp xgn xac xlr xhm xrp xrA xrB xrC xby xhd xst xbg xco xen xre xld xim xic xih xif xop xbp xbq xsc xna xhe xlo xsk := by
  have he := pl_ef hF hf
  have nx := pl_nx bad hI.1
  have sa := pl_ISge hI
  have vi := hv i
  refine x_sizeOf vi (nm_r (nI_add _ _) (pk_le (pl_e b f) (i + pl_sz (b i)) (fun h => ?_) fun h => ?_))
  · refine k xbg hS (fun _ z => z) (fun c z => ?_) fun c z => ?_
    · have := pl_sz2.mpr (show b i ≤ 2 ∨ (10 ≤ b i ∧ b i ≤ 15) by omega); omega
    · have := pl_sz1.mpr (show ¬ (b i ≤ 2 ∨ (10 ≤ b i ∧ b i ≤ 15)) by omega); omega
  · refine x_ends vi (fun c => br_f ba_10 ⟨vp_in_nI (by omega) (by omega), nm_r (show _ = upd xbg (i + pl_sz (b i)) 1 by rw [nI_clamp (by omega), ba_vb1]) ?_⟩) fun c => br_t rfl ?_
    · refine k _ (mb_Su hS hf (by omega) (by omega) (Or.inr ⟨i, hI, ?_⟩)) (mb_up _ _) (fun c' z => ?_) fun c' z => ?_
      · by_cases c16 : b i = 16
        · exact Or.inr (Or.inr ⟨c16, by rw [pl_sz1.mpr (show ¬ (b i ≤ 2 ∨ (10 ≤ b i ∧ b i ≤ 15)) by omega)]⟩)
        · exact Or.inr (Or.inl ⟨by omega, by omega, by rw [pl_sz2.mpr (show b i ≤ 2 ∨ (10 ≤ b i ∧ b i ≤ 15) by omega)]⟩)
      · rw [pl_sz2.mpr (show b i ≤ 2 ∨ (10 ≤ b i ∧ b i ≤ 15) by omega), pk_us]; exact ba_10
      · rw [pl_sz1.mpr (show ¬ (b i ≤ 2 ∨ (10 ≤ b i ∧ b i ≤ 15)) by omega), pk_us]; exact ba_10
    · exact k xbg hS (fun _ z => z) (fun c' z => absurd c' (by omega)) fun c' z => absurd c' (by omega)
theorem x_around {post : SX → Prop} {f i : Nat} (hn : n ≤ 120) (hF : pl_Fmt b n) (hf : f < pl_nf b) (hb : ∀ i, i < 120 → xby i = nI (b i)) (hv : ∀ i, b i < 256) (hI : pl_IS b f i) (bad : ¬ pl_bad b f i) (jok : pl_jok b f i) (hS : mb_S b xbg)
    (k : ∀ xbg' : Nat → Int32, mb_S b xbg' → mb_M xbg xbg' → mb_m b f xbg' i → post (xrc, xbc, xfc, xrn, xra, xfi, xfp, xgn, xac, xlr, xhm, xrp, xrA, xrB, xrC, xby, xhd, xst, xbg', xco, xen, xre, xld, xim, xic, xih, xif, xop, xbp, xbq, xsc, xna, xhe, xlo, xsk)) :
    wpX_markAround post (xrc, xbc, xfc, xrn, xra, xfi, xfp, xgn, xac, xlr, xhm, xrp, xrA, xrB, xrC, xby, xhd, xst, xbg, xco, xen, xre, xld, xim, xic, xih, xif, xop, xbp, xbq, xsc, xna, xhe, xlo, xsk) (nI i) (nI (pl_e b f)) := by
  have he := pl_ef hF hf
  have la := hI.1
  unfold wpX_markAround
  dsimp only
  rw [nI_clamp (by omega), hb i (by omega)]
  refine ⟨vp_in_nI (by omega) (by omega), nm_e ?_⟩
  refine x_isJump (hv i) (fun c => br_f ba_10 ?_) fun c => br_t rfl ?_
  · obtain ⟨t, et, st, it⟩ := jok c
    have hw : i + 1 < pl_e b f := pl_wide bad (pl_sz2.mpr (by omega))
    have lt := it.1
    refine x_targetB (b := b) (by omega) hb hv fun T hT => ?_
    have eT := tg_n (hT.trans et) (by omega)
    subst eT
    refine ⟨vp_in_nI (by omega) (by omega), nm_r (show _ = upd xbg t 1 by rw [nI_clamp (by omega), ba_vb1]) ?_⟩
    refine x_around34 (b := b) hn hF hf hv hI bad (mb_Su hS hf st lt (Or.inr ⟨i, hI, Or.inl ⟨c, et⟩⟩)) fun xbg' h1 h2 h3 h4 => k xbg' h1 (fun j z => h2 j (mb_up _ _ j z)) ⟨fun _ j ej => h2 j ?_, h3, h4⟩
    have : j = t := by omega
    subst this
    rw [pk_us]; exact ba_10
  · exact x_around34 (b := b) hn hF hf hv hI bad hS fun xbg' h1 h2 h3 h4 => k xbg' h1 h2 ⟨fun c' => absurd c' c, h3, h4⟩
theorem x_marks {post : SX → Prop} (hn : n ≤ 120) (hF : pl_Fmt b n) (h0 : ∀ f, f < pl_nf b → xhd f = nI (pl_hd b f)) (hb : ∀ i, i < 120 → xby i = nI (b i)) (hv : ∀ i, b i < 256) (hT : pl_ST b (pl_nf b) 0 xst) (hC : vd_B b) (hJ : vd_J b)
    (k : ∀ xbg : Nat → Int32, mb_G b xbg → post (xrc, xbc, nI (pl_nf b), xrn, xra, xfi, xfp, xgn, xac, xlr, xhm, xrp, xrA, xrB, xrC, xby, xhd, xst, xbg, xco, xen, xre, xld, xim, xic, xih, xif, xop, xbp, xbq, xsc, xna, xhe, xlo, xsk)) : wpX_markBlocks post (xrc, xbc, nI (pl_nf b), xrn, xra, xfi, xfp, xgn, xac, xlr, xhm, xrp, xrA, xrB, xrC, xby, xhd, xst, xbg, xco, xen, xre, xld, xim, xic, xih, xif, xop, xbp, xbq, xsc, xna, xhe, xlo, xsk) := by
  have h4 := hF.2.2.2.1
  have O : ∀ d f, ∀ xbg : Nat → Int32, f + d = pl_nf b → mb_S b xbg → (∀ g, g < f → ¬ xbg (pl_s b g) = 0 ∧ ∀ i, pl_IS b g i → mb_m b g xbg i) → wX_markBlocks_23 post (d + 1) (nI f) xrc xbc (nI (pl_nf b)) xrn xra xfi xfp xgn xac xlr xhm xrp xrA xrB xrC xby xhd xst xbg xco xen xre xld xim xic xih xif xop xbp xbq xsc xna xhe xlo xsk := by
    intro d
    induction d with
    | zero =>
      intro f xbg hf hS hg
      have : f = pl_nf b := by omega
      subst this
      refine br_t (nI_le (Nat.le_refl _) (by omega)) (k xbg fun j hj => ⟨hS j hj, fun ⟨f, hf, h1, h2, h3⟩ => ?_⟩)
      rcases h3 with rfl | ⟨i, hi, h5 | h5 | h5⟩
      · exact (hg f hf).1
      · exact ((hg f hf).2 i hi).1 h5.1 j h5.2
      · obtain ⟨c1, c2, rfl⟩ := h5
        exact ((hg f hf).2 i hi).2.1 ⟨c1, c2⟩ h2
      · obtain ⟨c1, rfl⟩ := h5
        exact ((hg f hf).2 i hi).2.2 c1 h2
    | succ d ih =>
      intro f xbg hf hS hg
      have he := pl_ef hF (f := f) (by omega)
      have hh := pl_hf hF (f := f) (by omega)
      have hs : pl_s b f < pl_e b f := hh
      refine br_f (nI_ge (by omega) (by omega)) ?_
      refine x_codeFirst (b := b) (by omega) (h0 f (by omega)) ?_
      refine x_codeEnd (b := b) (by omega) (h0 f (by omega)) (by omega) hb ⟨vp_in_nI (by omega) (by omega), nm_r (show _ = upd xbg (pl_s b f) 1 by rw [nI_clamp (by omega), ba_vb1]) ⟨pl_e b f - pl_s b f + 1, ?_⟩⟩
      have I : ∀ d' a, ∀ xbg : Nat → Int32, a + d' = pl_e b f → pl_s b f ≤ a → mb_S b xbg → (∀ g, g < f → ¬ xbg (pl_s b g) = 0 ∧ ∀ i, pl_IS b g i → mb_m b g xbg i) → ¬ xbg (pl_s b f) = 0 → (∀ i, i < a → pl_IS b f i → mb_m b f xbg i) →
          wX_markBlocks_53 post (wX_markBlocks_23 post (d + 1)) (nI f) (nI (pl_e b f)) (d' + 1) (nI a) xrc xbc (nI (pl_nf b)) xrn xra xfi xfp xgn xac xlr xhm xrp xrA xrB xrC xby xhd xst xbg xco xen xre xld xim xic xih xif xop xbp xbq xsc xna xhe xlo xsk := by
        intro d'
        induction d' with
        | zero =>
          intro a xbg ha h1 h2 h3 h5 h6
          refine br_t (nI_le (by omega) (by omega)) (nm_r (nI_1 f) (ih (f + 1) xbg (by omega) h2 fun g hg' => ?_))
          by_cases e : g = f
          · subst e; exact ⟨h5, fun i hi => h6 i (by have := hi.1; omega) hi⟩
          · exact h3 g (by omega)
        | succ d' ih' =>
          intro a xbg ha h1 h2 h3 h5 h6
          refine br_f (nI_ge (by omega) (by omega)) ⟨vp_in_nI (by omega) (by omega), ?_⟩
          rw [nI_clamp (by omega)]
          have sf := st_f hT (f := f) (by omega) h1 (by omega) (by omega)
          refine br_c (fun z => nm_r (nI_1 a) (ih' (a + 1) xbg (by omega) (by omega) h2 h3 h5 fun i hi hI => ?_)) fun z => ?_
          · by_cases e : i = a
            · subst e; exact absurd z (sf.mpr hI)
            · exact h6 i (by omega) hI
          · have is := sf.mp z
            refine x_around (b := b) hn hF (by omega) hb hv is (hC f (by omega) a is) (hJ f (by omega) a is) h2 fun xbg' q1 q2 q3 => nm_r (nI_1 a) (ih' (a + 1) xbg' (by omega) (by omega) q1 (fun g hg' => ⟨q2 _ (h3 g hg').1, fun i hi => mb_mm q2 ((h3 g hg').2 i hi)⟩) (q2 _ h5) fun i hi hI => ?_)
            by_cases e : i = a
            · subst e; exact q3
            · exact mb_mm q2 (h6 i (by omega) hI)
      refine I (pl_e b f - pl_s b f) (pl_s b f) _ (by omega) (Nat.le_refl _) (mb_Su hS (f := f) (by omega) (Nat.le_refl _) hs (Or.inl rfl)) (fun g hg' => ⟨mb_up _ _ _ (hg g hg').1, fun i hi => mb_mm (mb_up _ _) ((hg g hg').2 i hi)⟩) (by rw [pk_us]; exact ba_10) fun i hi hI => absurd (pl_ISge hI) (by omega)
  have Z : ∀ d a, ∀ xbg : Nat → Int32, a + d = 120 → (∀ j, j < a → xbg j = 0) → wX_markBlocks_2 post xrc xbc (nI (pl_nf b)) xrn xra xfi xfp xgn xac xlr xhm (d + 1) (nI a) xrp xrA xrB xrC xby xhd xst xbg xco xen xre xld xim xic xih xif xop xbp xbq xsc xna xhe xlo xsk := by
    intro d
    induction d with
    | zero =>
      intro a xbg ha hz
      exact br_t (nI_le (a := 120) (by omega) (by omega)) ⟨_, O (pl_nf b) 0 xbg (by omega) (fun j hj z => absurd (hz j (by omega)) z) fun g hg => absurd hg (by omega)⟩
    | succ d ih =>
      intro a xbg ha hz
      refine br_f (nI_ge (b := 120) (by omega) (by decide)) ⟨vp_in_nI (by omega) (by omega), nm_r (show _ = upd xbg a 0 by rw [nI_clamp (by omega), ba_vb0]) (nm_r (nI_1 a) (ih (a + 1) _ (by omega) fun j hj => ?_))⟩
      by_cases e : j = a
      · subst e; exact pk_us
      · rw [pk_un e]; exact hz j (by omega)
  exact ⟨_, Z 120 0 xbg rfl fun j hj => absurd hj (by omega)⟩
end C5
