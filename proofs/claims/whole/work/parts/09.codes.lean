section B1
variable {r n : Nat} {pt M b : Nat → Nat} {xrc xbc xfc xrn xra xfi xfp xgn xac xlr : Int32} {xhm : Int64} {xrp xrA xrB xrC xby xhd xst xbg xco xen xre xld xim xic xih xif xop xbp xbq xsc xna xhe xlo xsk : Nat → Int32} {yru ypl ynu yps yfi yac yre : Int32} {yme : Int64} {yrp yrq yrl yby yle ypr ywa ybp ybq ybo ysc yfn yat yhi ylo yen : Nat → Int32}
/-! bounds out of the format -/
theorem pl_hd_le (b : Nat → Nat) : ∀ g f, g ≤ f → pl_hd b g ≤ pl_hd b f := by
  intro g f h
  induction f with
  | zero => have : g = 0 := by omega
            subst this; exact Nat.le_refl _
  | succ f ih =>
    by_cases e : g = f + 1
    · subst e; exact Nat.le_refl _
    · have := ih (by omega)
      show _ ≤ pl_hd b f + 3 + b (pl_hd b f + 2)
      omega
theorem pl_ef {b : Nat → Nat} {n f : Nat} (h : pl_Fmt b n) (hf : f < pl_nf b) : pl_e b f ≤ n := by
  have := pl_hd_le b (f + 1) (pl_nf b) (by omega)
  have h2 := h.2.2.2.2.2
  rw [pl_e_hd]
  omega
theorem pl_hf {b : Nat → Nat} {n f : Nat} (h : pl_Fmt b n) (hf : f < pl_nf b) : pl_hd b f + 3 < pl_e b f := by
  have := (h.2.2.2.2.1 f hf).2.2.1
  unfold pl_e
  omega
theorem pl_sf {b : Nat → Nat} {n f : Nat} (h : pl_Fmt b n) (hf : f < pl_nf b) : pl_s b f < pl_e b f := pl_hf h hf
theorem pl_sl {b : Nat → Nat} {n f : Nat} (h : pl_Fmt b n) (hf : f < pl_nf b) : pl_e b f ≤ pl_s b f + 40 := by
  have := (h.2.2.2.2.1 f hf).2.2.2
  unfold pl_e pl_s
  omega
/-- different functions' instructions lie apart -/
theorem pl_apart {b : Nat → Nat} {f g i : Nat} (h1 : pl_s b f ≤ i) (h2 : i < pl_e b f) (h3 : pl_s b g ≤ i) (h4 : i < pl_e b g) : f = g := by
  by_cases h : f < g
  · have := pl_hd_le b (f + 1) g (by omega)
    have e : pl_e b f = pl_hd b (f + 1) := rfl
    have e2 : pl_s b g = pl_hd b g + 3 := rfl
    omega
  · by_cases h' : g < f
    · have := pl_hd_le b (g + 1) f (by omega)
      have e : pl_e b g = pl_hd b (g + 1) := rfl
      have e2 : pl_s b f = pl_hd b f + 3 := rfl
      omega
    · omega
theorem c17 {c : Nat} (h : c ≤ 16) : c = 0 ∨ c = 1 ∨ c = 2 ∨ c = 3 ∨ c = 4 ∨ c = 5 ∨ c = 6 ∨ c = 7 ∨ c = 8 ∨ c = 9 ∨ c = 10 ∨ c = 11 ∨ c = 12 ∨ c = 13 ∨ c = 14 ∨ c = 15 ∨ c = 16 := by omega
theorem pl_sz2 {c : Nat} : pl_sz c = 2 ↔ (c ≤ 2 ∨ (10 ≤ c ∧ c ≤ 15)) := by
  unfold pl_sz
  split
  · exact ⟨fun _ => by assumption, fun _ => rfl⟩
  · exact ⟨fun z => absurd z (by omega), fun z => absurd z (by assumption)⟩
theorem pl_sz1 {c : Nat} : pl_sz c = 1 ↔ ¬ (c ≤ 2 ∨ (10 ≤ c ∧ c ≤ 15)) := by
  rw [← pl_sz2]
  have := pl_sz_pos c
  omega
theorem w_wide {post : Int32 → Prop} {c : Nat} (hc : c < 256) (k1 : pl_sz c = 2 → post 1) (k0 : pl_sz c = 1 → post 0) : ((nI c ≤ 2 → (post 1)) ∧ (¬ nI c ≤ 2 → (((nI c < 10 → (post 0)) ∧ (¬ nI c < 10 → (((15 < nI c → (post 0)) ∧ (¬ 15 < nI c → (post 1))))))))) :=
  pk_le c 2 (fun h => k1 (pl_sz2.mpr (by omega))) fun h => pk_lt c 10 (fun h2 => k0 (pl_sz1.mpr (by omega))) fun h2 => pk_lt 15 c (fun h3 => k0 (pl_sz1.mpr (by omega))) fun h3 => k1 (pl_sz2.mpr (by omega))
theorem x_hasOp {post : Int32 → Prop} {c : Nat} (hc : c < 256) (k1 : pl_sz c = 2 → post 1) (k0 : pl_sz c = 1 → post 0) : wpX_hasOperand post (xrc, xbc, xfc, xrn, xra, xfi, xfp, xgn, xac, xlr, xhm, xrp, xrA, xrB, xrC, xby, xhd, xst, xbg, xco, xen, xre, xld, xim, xic, xih, xif, xop, xbp, xbq, xsc, xna, xhe, xlo, xsk) (nI c) := w_wide hc k1 k0
theorem y_wide {post : Int32 → Prop} {c : Nat} (hc : c < 256) (k1 : pl_sz c = 2 → post 1) (k0 : pl_sz c = 1 → post 0) : wpY_wide post (nI c) := w_wide hc k1 k0
theorem x_sizeOf {post : Int32 → Prop} {c : Nat} (hc : c < 256) (k : post (nI (pl_sz c))) : wpX_sizeOf post (xrc, xbc, xfc, xrn, xra, xfi, xfp, xgn, xac, xlr, xhm, xrp, xrA, xrB, xrC, xby, xhd, xst, xbg, xco, xen, xre, xld, xim, xic, xih, xif, xop, xbp, xbq, xsc, xna, xhe, xlo, xsk) (nI c) := by
  unfold wpX_sizeOf
  dsimp only
  refine x_hasOp hc (fun h => br_f ba_10 ?_) fun h => br_t rfl ?_
  · rw [h] at k; exact k
  · rw [h] at k; exact k
theorem x_codeEnd {post : Int32 → Prop} {f : Nat} (hf : f < 4) (h0 : xhd f = nI (pl_hd b f)) (h1 : pl_hd b f + 2 < 120) (hb : ∀ i, i < 120 → xby i = nI (b i)) (k : post (nI (pl_e b f))) : wpX_codeEnd post (xrc, xbc, xfc, xrn, xra, xfi, xfp, xgn, xac, xlr, xhm, xrp, xrA, xrB, xrC, xby, xhd, xst, xbg, xco, xen, xre, xld, xim, xic, xih, xif, xop, xbp, xbq, xsc, xna, xhe, xlo, xsk) (nI f) := by
  unfold wpX_codeEnd
  dsimp only
  have e3 : nI (pl_hd b f) + 3 = nI (pl_hd b f + 2 + 1) := nI_add _ 3
  rw [nI_clamp (by omega), h0, e3, nI_pred, nI_clamp (by omega), hb _ h1, nI_add]
  exact ⟨vp_in_nI hf (by omega), vp_in_nI hf (by omega), vp_in_nI h1 (by omega), k⟩
theorem x_codeFirst {post : Int32 → Prop} {f : Nat} (hf : f < 4) (h0 : xhd f = nI (pl_hd b f)) (k : post (nI (pl_s b f))) : wpX_codeFirst post (xrc, xbc, xfc, xrn, xra, xfi, xfp, xgn, xac, xlr, xhm, xrp, xrA, xrB, xrC, xby, xhd, xst, xbg, xco, xen, xre, xld, xim, xic, xih, xif, xop, xbp, xbq, xsc, xna, xhe, xlo, xsk) (nI f) := by
  unfold wpX_codeFirst
  dsimp only
  rw [nI_clamp (by omega), h0, show nI (pl_hd b f) + 3 = nI (pl_hd b f + 3) from nI_add _ 3]
  exact ⟨vp_in_nI hf (by omega), k⟩
theorem x_li76 {post : Int32 → Prop} {f : Nat} (hf : f < 4) (h0 : xhd f = nI (pl_hd b f)) (h1 : pl_hd b f + 2 < 120) (hb : ∀ i, i < 120 → xby i = nI (b i)) (k : post (nI (b (pl_hd b f) + b (pl_hd b f + 1)))) :
    wX_operandLimit_76 post (nI f) xrc xbc xfc xrn xra xfi xfp xgn xac xlr xhm xrp xrA xrB xrC xby xhd xst xbg xco xen xre xld xim xic xih xif xop xbp xbq xsc xna xhe xlo xsk := by
  unfold wX_operandLimit_76
  rw [nI_clamp (by omega), h0, nI_1, nI_clamp (by omega), nI_clamp (by omega), hb _ (by omega), hb _ (by omega), nI_add]
  exact ⟨vp_in_nI hf (by omega), vp_in_nI (by omega) (by omega), vp_in_nI hf (by omega), vp_in_nI (by omega) (by omega), k⟩
theorem x_limit {post : Int32 → Prop} {f c : Nat} (hc : c ≤ 16) (hs : pl_sz c = 2) (hf : f < 4) (h0 : xhd f = nI (pl_hd b f)) (h1 : pl_hd b f + 2 < 120) (hb : ∀ i, i < 120 → xby i = nI (b i)) (k : post (nI (pl_li b f c))) :
    wpX_operandLimit post (xrc, xbc, nI (pl_nf b), xrn, xra, xfi, xfp, xgn, xac, xlr, xhm, xrp, xrA, xrB, xrC, xby, xhd, xst, xbg, xco, xen, xre, xld, xim, xic, xih, xif, xop, xbp, xbq, xsc, xna, xhe, xlo, xsk) (nI f) (nI c) := by
  unfold wpX_operandLimit
  dsimp only
  rcases c17 hc with rfl | rfl | rfl | rfl | rfl | rfl | rfl | rfl | rfl | rfl | rfl | rfl | rfl | rfl | rfl | rfl | rfl
  · exact br_t (by decide) k
  · exact br_f (by decide) (br_f (by decide) (br_t (by decide) (x_li76 hf h0 h1 hb k)))
  · exact br_f (by decide) (br_f (by decide) (br_f (by decide) (br_t (by decide) (x_li76 hf h0 h1 hb k))))
  · exact absurd (pl_sz2.mp hs) (by omega)
  · exact absurd (pl_sz2.mp hs) (by omega)
  · exact absurd (pl_sz2.mp hs) (by omega)
  · exact absurd (pl_sz2.mp hs) (by omega)
  · exact absurd (pl_sz2.mp hs) (by omega)
  · exact absurd (pl_sz2.mp hs) (by omega)
  · exact absurd (pl_sz2.mp hs) (by omega)
  · exact br_f (by decide) (br_f (by decide) (br_f (by decide) (br_f (by decide) (br_f (by decide) (br_f (by decide) (br_f (by decide) (br_f (by decide) (br_f (by decide) (br_f (by decide) (br_f (by decide) (br_t (by decide) (k))))))))))))
  · exact br_f (by decide) (br_f (by decide) (br_f (by decide) (br_f (by decide) (br_f (by decide) (br_f (by decide) (br_f (by decide) (br_f (by decide) (br_f (by decide) (br_f (by decide) (br_f (by decide) (br_f (by decide) (br_t (by decide) (k)))))))))))))
  · exact br_f (by decide) (br_f (by decide) (br_f (by decide) (br_f (by decide) (br_f (by decide) (br_f (by decide) (br_f (by decide) (br_f (by decide) (br_f (by decide) (br_f (by decide) (br_f (by decide) (br_f (by decide) (br_f (by decide) (br_t (by decide) (k))))))))))))))
  · exact br_f (by decide) (br_f (by decide) (br_f (by decide) (br_f (by decide) (br_f (by decide) (br_f (by decide) (br_f (by decide) (br_f (by decide) (br_f (by decide) (br_f (by decide) (br_f (by decide) (br_f (by decide) (br_f (by decide) (br_f (by decide) (br_t (by decide) (by rw [hb 1 (by omega)]; exact k)))))))))))))))
  · exact br_f (by decide) (br_f (by decide) (br_f (by decide) (br_f (by decide) (br_f (by decide) (br_f (by decide) (br_f (by decide) (br_f (by decide) (br_f (by decide) (br_f (by decide) (br_f (by decide) (br_f (by decide) (br_f (by decide) (br_f (by decide) (br_f (by decide) (br_t (by decide) (k))))))))))))))))
  · exact br_f (by decide) (br_f (by decide) (br_f (by decide) (br_f (by decide) (br_f (by decide) (br_f (by decide) (br_f (by decide) (br_f (by decide) (br_f (by decide) (br_f (by decide) (br_f (by decide) (br_f (by decide) (br_f (by decide) (br_f (by decide) (br_f (by decide) (br_f (by decide) (br_t (by decide) (k)))))))))))))))))
  · exact absurd (pl_sz2.mp hs) (by omega)
theorem x_isBad {post : Int32 → Prop} {f i : Nat} (hi : i < 120) (he : pl_e b f ≤ 120) (hf : f < 4) (h0 : xhd f = nI (pl_hd b f)) (h1 : pl_hd b f + 2 < 120) (hb : ∀ i, i < 120 → xby i = nI (b i)) (hv : ∀ i, b i < 256) (hl : pl_li b f (b i) < 1000)
    (k1 : pl_bad b f i → post 1) (k0 : ¬ pl_bad b f i → post 0) : wpX_isBadCode post (xrc, xbc, nI (pl_nf b), xrn, xra, xfi, xfp, xgn, xac, xlr, xhm, xrp, xrA, xrB, xrC, xby, xhd, xst, xbg, xco, xen, xre, xld, xim, xic, xih, xif, xop, xbp, xbq, xsc, xna, xhe, xlo, xsk) (nI f) (nI i) (nI (pl_e b f)) := by
  unfold wpX_isBadCode
  dsimp only
  have v := hv i
  rw [nI_clamp (by omega), hb i hi, nI_1]
  refine ⟨vp_in_nI hi (by omega), nm_e (pk_le (b i) 16 (fun h => ?_) fun h => k1 (Or.inl h))⟩
  refine x_hasOp v (fun h2 => br_f ba_10 ?_) fun h2 => br_t rfl (k0 fun z => ?_)
  · refine pk_le (pl_e b f) (i + 1) (fun h3 => k1 (Or.inr ⟨h2, Or.inl h3⟩)) fun h3 => ⟨vp_in_nI (by omega) (by omega), ?_⟩
    refine x_limit h h2 hf h0 h1 hb ?_
    have v2 := hv (i + 1)
    rw [nI_clamp (by omega), hb (i + 1) (by omega)]
    refine pk_lt (b (i + 1)) (pl_li b f (b i)) (fun h4 => k0 fun z => ?_) fun h4 => k1 (Or.inr ⟨h2, Or.inr h4⟩)
    unfold pl_bad at z
    omega
  · unfold pl_bad at z
    omega
/-- the first bad code of f -/
def pl_FB (b : Nat → Nat) (f i : Nat) : Prop := pl_IS b f i ∧ pl_bad b f i ∧ ∀ j, j < i → pl_IS b f j → ¬ pl_bad b f j
def pl_ST (b : Nat → Nat) (f a : Nat) (st : Nat → Int32) : Prop := ∀ j, j < 120 → (¬ st j = 0 ↔ ((∃ g, g < f ∧ pl_IS b g j) ∨ (pl_IS b f j ∧ j < a)))
theorem pl_li_lt {b : Nat → Nat} {n f c : Nat} (h : pl_Fmt b n) (hf : f < pl_nf b) : pl_li b f c < 1000 := by
  have h1 := h.2.2.2.2.1 f hf
  have h2 := h.2.2.2.1
  have h3 := h.1
  unfold pl_li
  split
  · omega
  · split
    · omega
    · split
      · omega
      · split <;> omega
theorem x_ci53 {post : SX → Prop} {J23 : Int32 → Int32 → Int32 → Int32 → Int32 → Int32 → Int32 → Int32 → Int32 → Int32 → Int32 → Int64 → (Nat → Int32) → (Nat → Int32) → (Nat → Int32) → (Nat → Int32) → (Nat → Int32) → (Nat → Int32) → (Nat → Int32) → (Nat → Int32) → (Nat → Int32) → (Nat → Int32) → (Nat → Int32) → (Nat → Int32) → (Nat → Int32) → (Nat → Int32) → (Nat → Int32) → (Nat → Int32) → (Nat → Int32) → (Nat → Int32) → (Nat → Int32) → (Nat → Int32) → (Nat → Int32) → (Nat → Int32) → (Nat → Int32) → (Nat → Int32) → Prop} {f : Nat} (hn : n ≤ 120) (hF : pl_Fmt b n) (hf : f < pl_nf b) (h0 : xhd f = nI (pl_hd b f)) (hb : ∀ i, i < 120 → xby i = nI (b i)) (hv : ∀ i, b i < 256)
    (kbad : ∀ i, pl_FB b f i → ∀ xst : Nat → Int32, J23 (nI (f + 1)) xrc xbc (nI (pl_nf b)) xrn xra (nI 4) (nI i) xgn xac xlr xhm xrp xrA xrB xrC xby xhd xst xbg xco xen xre xld xim xic xih xif xop xbp xbq xsc xna xhe xlo xsk)
    (kok : (∀ i, pl_IS b f i → ¬ pl_bad b f i) → ∀ xst : Nat → Int32, pl_ST b (f + 1) 0 xst → J23 (nI (f + 1)) xrc xbc (nI (pl_nf b)) xrn xra 0 xfp xgn xac xlr xhm xrp xrA xrB xrC xby xhd xst xbg xco xen xre xld xim xic xih xif xop xbp xbq xsc xna xhe xlo xsk) :
    ∀ d a k, ∀ xst : Nat → Int32, a + d = pl_e b f → a ≤ pl_sc b (pl_s b f) k → pl_sc b (pl_s b f) k ≤ a + 1 → (∀ m, m < k → pl_sc b (pl_s b f) m < a) → (∀ m, m < k → ¬ pl_bad b f (pl_sc b (pl_s b f) m)) → pl_ST b f a xst →
      wX_checkInstructions_53 post J23 (nI f) (nI (pl_e b f)) (d + 1) (nI (pl_sc b (pl_s b f) k)) (nI a) xrc xbc (nI (pl_nf b)) xrn xra 0 xfp xgn xac xlr xhm xrp xrA xrB xrC xby xhd xst xbg xco xen xre xld xim xic xih xif xop xbp xbq xsc xna xhe xlo xsk := by
  have he := pl_ef hF hf
  have hh := pl_hf hF hf
  have h4 := hF.2.2.2.1
  intro d
  induction d with
  | zero =>
    intro a k xst ha h1 h2 h3 h5 hS
    refine br_t (nI_le (by omega) (by omega)) (nm_r (nI_1 f) (kok (fun i hi => ?_) xst fun j hj => ?_))
    · obtain ⟨h6, m, rfl⟩ := hi
      refine h5 m ?_
      by_cases z : m < k
      · exact z
      · by_cases e : m = k
        · subst e; omega
        · have := pl_sc_lt b (pl_s b f) k m (by omega)
          omega
    · rw [hS j hj]
      constructor
      · rintro (⟨g, hg, h7⟩ | ⟨h7, _⟩)
        · exact Or.inl ⟨g, by omega, h7⟩
        · exact Or.inl ⟨f, by omega, h7⟩
      · rintro (⟨g, hg, h7⟩ | ⟨h7, h8⟩)
        · by_cases e : g = f
          · subst e; exact Or.inr ⟨h7, by have := h7.1; omega⟩
          · exact Or.inl ⟨g, by omega, h7⟩
        · omega
  | succ d ih =>
    intro a k xst ha h1 h2 h3 h5 hS
    have hIS : ∀ j, pl_IS b f j → j < pl_sc b (pl_s b f) k → ∃ m, m < k ∧ pl_sc b (pl_s b f) m = j := by
      intro j hj hl
      obtain ⟨_, m, rfl⟩ := hj
      refine ⟨m, ?_, rfl⟩
      by_cases z : m < k
      · exact z
      · by_cases e : m = k
        · subst e; omega
        · have := pl_sc_lt b (pl_s b f) k m (by omega)
          omega
    refine br_f (nI_ge (by omega) (by omega)) (br_t rfl (pk_eq a (pl_sc b (pl_s b f) k) (fun e => ?_) fun e => ?_))
    · have is : pl_IS b f a := ⟨by omega, k, e.symm⟩
      refine x_isBad (by omega) (by omega) (by omega) h0 (by omega) hb hv (pl_li_lt hF hf) (fun z => br_f ba_10 ?_) fun z => br_t rfl ?_
      · refine nm_r (nI_1 a) ?_
        have K := kbad a ⟨is, z, fun j hj hjs => ?_⟩ xst
        · cases d with
          | zero => exact br_t (nI_le (by omega) (by omega)) (nm_r (nI_1 f) K)
          | succ d => exact br_f (nI_ge (by omega) (by omega)) (br_f (by decide) (nm_r (nI_1 f) K))
        · obtain ⟨m, hm, rfl⟩ := hIS j hjs (by omega)
          exact h5 m hm
      · have v := hv a
        refine br_t (by rw [e]) ⟨vp_in_nI (by omega) (by omega), nm_r (show _ = upd xst a 1 by rw [nI_clamp (by omega), ba_vb1]) ⟨vp_in_nI (by omega) (by omega), ?_⟩⟩
        rw [nI_clamp (by omega), hb a (by omega)]
        refine x_sizeOf v (nm_r (e' := nI (pl_sc b (pl_s b f) (k + 1))) (by rw [nI_add]; exact congrArg nI (by show _ = pl_sc b (pl_s b f) k + pl_sz (b (pl_sc b (pl_s b f) k)); rw [← e])) (nm_r (nI_1 a) ?_))
        have hz := pl_sz_pos (b a)
        have hsc : pl_sc b (pl_s b f) (k + 1) = a + pl_sz (b a) := by show pl_sc b (pl_s b f) k + pl_sz (b (pl_sc b (pl_s b f) k)) = _; rw [← e]
        refine ih (a + 1) (k + 1) (upd xst a 1) (by omega) (by omega) (by omega) (fun m hm => ?_) (fun m hm => ?_) fun j hj => ?_
        · by_cases em : m = k
          · subst em; omega
          · have := h3 m (by omega); omega
        · by_cases em : m = k
          · subst em; rw [← e]; exact z
          · exact h5 m (by omega)
        · by_cases ej : j = a
          · subst ej
            rw [pk_us]
            exact ⟨fun _ => Or.inr ⟨is, by omega⟩, fun _ => by decide⟩
          · rw [pk_un ej, hS j hj]
            constructor
            · rintro (h7 | ⟨h7, h8⟩)
              · exact Or.inl h7
              · exact Or.inr ⟨h7, by omega⟩
            · rintro (h7 | ⟨h7, h8⟩)
              · exact Or.inl h7
              · exact Or.inr ⟨h7, by omega⟩
    · refine br_f (ba_ne (by omega) (by omega) e) (nm_r (nI_1 a) (ih (a + 1) k xst (by omega) (by omega) (by omega) (fun m hm => by have := h3 m hm; omega) h5 fun j hj => ?_))
      rw [hS j hj]
      constructor
      · rintro (h7 | ⟨h7, h8⟩)
        · exact Or.inl h7
        · exact Or.inr ⟨h7, by omega⟩
      · rintro (h7 | ⟨h7, h8⟩)
        · exact Or.inl h7
        · refine Or.inr ⟨h7, ?_⟩
          by_cases ej : j = a
          · subst ej
            obtain ⟨m, hm, em⟩ := hIS j h7 (by omega)
            have := h3 m hm
            omega
          · omega
/-- the first function with a bad code, and its first -/
def pl_FBA (b : Nat → Nat) (i : Nat) : Prop := ∃ f, f < pl_nf b ∧ pl_FB b f i ∧ ∀ g, g < f → ∀ j, pl_IS b g j → ¬ pl_bad b g j
theorem x_codes {post : SX → Prop} (hn : n ≤ 120) (hF : pl_Fmt b n) (h0 : ∀ f, f < pl_nf b → xhd f = nI (pl_hd b f)) (hb : ∀ i, i < 120 → xby i = nI (b i)) (hv : ∀ i, b i < 256)
    (kbad : ∀ i, pl_FBA b i → ∀ xst : Nat → Int32, post (xrc, xbc, nI (pl_nf b), xrn, xra, nI 4, nI i, xgn, xac, xlr, xhm, xrp, xrA, xrB, xrC, xby, xhd, xst, xbg, xco, xen, xre, xld, xim, xic, xih, xif, xop, xbp, xbq, xsc, xna, xhe, xlo, xsk))
    (kok : (∀ f, f < pl_nf b → ∀ i, pl_IS b f i → ¬ pl_bad b f i) → ∀ xst : Nat → Int32, pl_ST b (pl_nf b) 0 xst → post (xrc, xbc, nI (pl_nf b), xrn, xra, 0, xfp, xgn, xac, xlr, xhm, xrp, xrA, xrB, xrC, xby, xhd, xst, xbg, xco, xen, xre, xld, xim, xic, xih, xif, xop, xbp, xbq, xsc, xna, xhe, xlo, xsk)) :
    wpX_checkInstructions post (xrc, xbc, nI (pl_nf b), xrn, xra, 0, xfp, xgn, xac, xlr, xhm, xrp, xrA, xrB, xrC, xby, xhd, xst, xbg, xco, xen, xre, xld, xim, xic, xih, xif, xop, xbp, xbq, xsc, xna, xhe, xlo, xsk) := by
  have h4 := hF.2.2.2.1
  have O : ∀ d f, ∀ xst : Nat → Int32, f + d = pl_nf b → (∀ g, g < f → ∀ j, pl_IS b g j → ¬ pl_bad b g j) → pl_ST b f 0 xst → wX_checkInstructions_23 post (d + 1) (nI f) xrc xbc (nI (pl_nf b)) xrn xra 0 xfp xgn xac xlr xhm xrp xrA xrB xrC xby xhd xst xbg xco xen xre xld xim xic xih xif xop xbp xbq xsc xna xhe xlo xsk := by
    intro d
    induction d with
    | zero =>
      intro f xst hf hg hS
      have : f = pl_nf b := by omega
      subst this
      exact br_t (nI_le (Nat.le_refl _) (by omega)) (kok hg xst hS)
    | succ d ih =>
      intro f xst hf hg hS
      have he := pl_ef hF (f := f) (by omega)
      have hh := pl_hf hF (f := f) (by omega)
      have hs : pl_s b f < pl_e b f := hh
      refine br_f (nI_ge (by omega) (by omega)) (br_t rfl ?_)
      refine x_codeEnd (b := b) (by omega) (h0 f (by omega)) (by omega) hb ?_
      refine x_codeFirst (b := b) (by omega) (h0 f (by omega)) ?_
      refine ⟨pl_e b f - pl_s b f + 1, x_ci53 (b := b) hn hF (by omega) (h0 f (by omega)) hb hv (fun i hi xst => ?_) (fun hok xst hS' => ?_) (pl_e b f - pl_s b f) (pl_s b f) 0 xst (by omega) (Nat.le_refl _) (by show pl_s b f ≤ _; omega) (fun m hm => absurd hm (by omega)) (fun m hm => absurd hm (by omega)) fun j hj => ?_⟩
      · have K := kbad i ⟨f, by omega, hi, hg⟩ xst
        cases d with
        | zero => exact br_t (nI_le (by omega) (by omega)) K
        | succ d => exact br_f (nI_ge (by omega) (by omega)) (br_f (by decide) K)
      · refine ih (f + 1) xst (by omega) (fun g hg' => ?_) hS'
        by_cases e : g = f
        · subst e; exact hok
        · exact hg g (by omega)
      · rw [hS j hj]
        constructor
        · rintro (h7 | ⟨h7, h8⟩)
          · exact Or.inl h7
          · omega
        · rintro (h7 | ⟨h7, h8⟩)
          · exact Or.inl h7
          · have := pl_ISge h7; omega
  have Z : ∀ d a, ∀ xst : Nat → Int32, a + d = 120 → (∀ j, j < a → xst j = 0) → wX_checkInstructions_2 post xrc xbc (nI (pl_nf b)) xrn xra 0 xfp xgn xac xlr xhm (d + 1) (nI a) xrp xrA xrB xrC xby xhd xst xbg xco xen xre xld xim xic xih xif xop xbp xbq xsc xna xhe xlo xsk := by
    intro d
    induction d with
    | zero =>
      intro a xst ha hz
      refine br_t (nI_le (a := 120) (by omega) (by omega)) ⟨_, O (pl_nf b) 0 xst (by omega) (fun g hg => absurd hg (by omega)) fun j hj => ?_⟩
      rw [hz j (by omega)]
      constructor
      · intro z; exact absurd rfl z
      · rintro (⟨g, hg, _⟩ | ⟨_, h⟩)
        · omega
        · omega
    | succ d ih =>
      intro a xst ha hz
      refine br_f (nI_ge (b := 120) (by omega) (by decide)) ⟨vp_in_nI (by omega) (by omega), nm_r (show _ = upd xst a 0 by rw [nI_clamp (by omega), ba_vb0]) (nm_r (nI_1 a) (ih (a + 1) _ (by omega) fun j hj => ?_))⟩
      by_cases e : j = a
      · subst e; exact pk_us
      · rw [pk_un e]; exact hz j (by omega)
  exact ⟨_, Z 120 0 xst rfl fun j hj => absurd hj (by omega)⟩
end B1
