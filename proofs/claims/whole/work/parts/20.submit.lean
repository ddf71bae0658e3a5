section C8
variable {r n : Nat} {pt M b : Nat → Nat} {xrc xbc xfc xrn xra xfi xfp xgn xac xlr : Int32} {xhm : Int64} {xrp xrA xrB xrC xby xhd xst xbg xco xen xre xld xim xic xih xif xop xbp xbq xsc xna xhe xlo xsk : Nat → Int32} {yru ypl ynu yps yfi yac yre : Int32} {yme : Int64} {yrp yrq yrl yby yle ypr ywa ybp ybq ybo ysc yfn yat yhi ylo yen : Nat → Int32}
def cp_f (g : Nat → Int32) (base : Nat) (src : Nat → Int32) : Nat → (Nat → Int32)
  | 0 => g
  | k + 1 => upd (cp_f g base src k) (base + k) (src k)
theorem cp_out {g src : Nat → Int32} {base j : Nat} : ∀ m, (j < base ∨ base + m ≤ j) → cp_f g base src m j = g j := by
  intro m
  induction m with
  | zero => intro _; rfl
  | succ m ih =>
    intro h
    show upd (cp_f g base src m) (base + m) (src m) j = g j
    rw [pk_un (by omega), ih (by omega)]
theorem cp_in {g src : Nat → Int32} {base k : Nat} : ∀ m, k < m → cp_f g base src m (base + k) = src k := by
  intro m
  induction m with
  | zero => intro h; omega
  | succ m ih =>
    intro h
    show upd (cp_f g base src m) (base + m) (src m) (base + k) = src k
    by_cases e : k = m
    · subst e; exact pk_us
    · rw [pk_un (by omega), ih (by omega)]
theorem x_keep {post : SX → Prop} {p fc : Nat} (hp : p < 3) (hn : n ≤ 120) (hfc : fc ≤ 4)
    (k : post (xrc, nI n, nI fc, xrn, xra, xfi, xfp, xgn, xac, xlr, xhm, xrp, xrA, xrB, xrC, xby, xhd, xst, xbg, xco, xen, xre, upd xld p 1, cp_f xim (p * 120) xby n, cp_f xic (p * 120) xco n, cp_f xih (p * 4) (fun f => nI (p * 120) + xhd f) fc, upd xif p (nI fc), xop, xbp, xbq, xsc, xna, xhe, xlo, xsk)) : wpX_keep post (xrc, nI n, nI fc, xrn, xra, xfi, xfp, xgn, xac, xlr, xhm, xrp, xrA, xrB, xrC, xby, xhd, xst, xbg, xco, xen, xre, xld, xim, xic, xih, xif, xop, xbp, xbq, xsc, xna, xhe, xlo, xsk) (nI p) := by
  unfold wpX_keep
  dsimp only
  refine nm_r (show _ = nI (p * 120) from pk_mul p 120) ⟨n + 1, ?_⟩
  have L2 : ∀ d f, f + d = fc → wX_keep_51 post (nI p) (nI (p * 120)) xrc (nI n) (nI fc) xrn xra xfi xfp xgn xac xlr xhm (d + 1) (nI f) xrp xrA xrB xrC xby xhd xst xbg xco xen xre xld (cp_f xim (p * 120) xby n) (cp_f xic (p * 120) xco n) (cp_f xih (p * 4) (fun f => nI (p * 120) + xhd f) f) xif xop xbp xbq xsc xna xhe xlo xsk := by
    intro d
    induction d with
    | zero =>
      intro f hf
      have : f = fc := by omega
      subst this
      refine br_t (nI_le (Nat.le_refl _) (by omega)) ⟨vp_in_nI hp (by omega), nm_r (show _ = upd xif p (nI f) by rw [nI_clamp (by omega)]) ⟨vp_in_nI hp (by omega), nm_r (show _ = upd xld p 1 by rw [nI_clamp (by omega), ba_vb1]) k⟩⟩
    | succ d ih =>
      intro f hf
      have e : nI p * 4 + nI f = nI (p * 4 + f) := by rw [show nI p * 4 = nI (p * 4) from pk_mul p 4, nI_add]
      refine br_f (nI_ge (by omega) (by omega)) ⟨vp_in_nI (by omega) (by omega), by rw [e]; exact vp_in_nI (by omega) (by omega), nm_r ?_ (nm_r (nI_1 f) (ih (f + 1) (by omega)))⟩
      rw [e, nI_clamp (by omega), nI_clamp (by omega)]
      rfl
  have L1 : ∀ d i, i + d = n → wX_keep_7 post (nI p) (nI (p * 120)) xrc (nI n) (nI fc) xrn xra xfi xfp xgn xac xlr xhm (d + 1) (nI i) xrp xrA xrB xrC xby xhd xst xbg xco xen xre xld (cp_f xim (p * 120) xby i) (cp_f xic (p * 120) xco i) xih xif xop xbp xbq xsc xna xhe xlo xsk := by
    intro d
    induction d with
    | zero =>
      intro i hi
      have : i = n := by omega
      subst this
      exact br_t (nI_le (Nat.le_refl _) (by omega)) ⟨_, L2 fc 0 (by omega)⟩
    | succ d ih =>
      intro i hi
      have e : nI (p * 120) + nI i = nI (p * 120 + i) := nI_add _ _
      have V : vp_in (nI (p * 120) + nI i) 360 := by rw [e]; exact vp_in_nI (by omega) (by omega)
      refine br_f (nI_ge (by omega) (by omega)) ⟨vp_in_nI (by omega) (by omega), V, nm_r ?_ ⟨vp_in_nI (by omega) (by omega), V, nm_r ?_ (nm_r (nI_1 i) (ih (i + 1) (by omega)))⟩⟩
      · rw [e, nI_clamp (by omega), nI_clamp (by omega)]
        rfl
      · rw [e, nI_clamp (by omega), nI_clamp (by omega)]
        rfl
  exact L1 n 0 (by omega)
theorem x_admit {post : SX → Prop} {j : Nat} (hW : pl_WF b n) (h0 : ∀ f, f < pl_nf b → xhd f = nI (pl_hd b f)) (hb : ∀ i, i < 120 → xby i = nI (b i)) (hv : ∀ i, b i < 256) (hT : pl_ST b (pl_nf b) 0 xst)
    (hj : j ≤ 3) (h1 : ∀ x, x < j → ¬ xld x = 0) (h2 : j < 3 → xld j = 0)
    (k3 : j = 3 → post (xrc, nI n, nI (pl_nf b), xrn, xra, 8, xfp, xgn, xac, xlr, xhm, xrp, xrA, xrB, xrC, xby, xhd, xst, xbg, xco, xen, xre, xld, xim, xic, xih, xif, xop, xbp, xbq, xsc, xna, xhe, xlo, xsk))
    (k : j < 3 → ∀ xbg xco : Nat → Int32, (∀ f, f < pl_nf b → ∀ i, pl_IS b f i → xco i = nI (pl_C b f i)) → post (xrc, 0, nI (pl_nf b), xrn, xra, xfi, xfp, nI j, xac, xlr, xhm, xrp, xrA, xrB, xrC, xby, xhd, xst, xbg, xco, xen, xre, upd xld j 1, cp_f xim (j * 120) xby n, cp_f xic (j * 120) xco n, cp_f xih (j * 4) (fun f => nI (j * 120) + xhd f) (pl_nf b), upd xif j (nI (pl_nf b)), xop, xbp, xbq, xsc, xna, xhe, xlo, xsk)) :
    wpX_admit post (xrc, nI n, nI (pl_nf b), xrn, xra, xfi, xfp, xgn, xac, xlr, xhm, xrp, xrA, xrB, xrC, xby, xhd, xst, xbg, xco, xen, xre, xld, xim, xic, xih, xif, xop, xbp, xbq, xsc, xna, xhe, xlo, xsk) := by
  obtain ⟨hn, hF, hff⟩ := hW
  have hB : vd_B b := fun f hf => (hff f hf).1
  have hJ : vd_J b := fun f hf => (hff f hf).2.1
  have h4 := hF.2.2.2.1
  -- the tail, once the number is known
  have G : j < 3 → wX_admit_4 post xrc (nI n) (nI (pl_nf b)) xrn xra xfi xfp xgn xac xlr xhm xrp xrA xrB xrC xby xhd xst xbg xco xen xre xld xim xic xih xif xop xbp xbq xsc xna xhe xlo xsk 1 (nI j) (-1) := by
    intro hj3
    refine br_t ba_m1lt (br_f (ba_m1ne (by omega)) ?_)
    refine x_marks (b := b) hn hF h0 hb hv hT hB hJ fun xbg hG => ?_
    refine x_sums (b := b) hn hb hv (fun m hm z1 z2 q => ?_) fun xco c1 c2 => ?_
    · rcases (hT m (by omega)).mp z1 with ⟨f, hf, hI⟩ | ⟨_, h'⟩
      · have sa := pl_ISge hI
        have la := hI.1
        have sf := pl_sf hF hf
        have he := pl_ef hF hf
        have bs : ¬ xbg (pl_s b f) = 0 := (hG _ (by omega)).mpr ⟨f, hf, Nat.le_refl _, sf, Or.inl rfl⟩
        by_cases e : pl_s b f = m
        · rw [e] at bs; exact bs z2
        · exact bs (q _ (by omega))
      · omega
    · refine x_keep hj3 hn h4 ?_
      refine k hj3 xbg xco fun f hf i hI => ?_
      have sa := pl_ISge hI
      have la := hI.1
      have he := pl_ef hF hf
      by_cases hL : pl_L b f i
      · rw [c2 i (by omega) ((hG i (by omega)).mpr ⟨f, hf, sa, la, hL⟩), pl_C_L hL, sc_C (f := f) (i := i) hn hF hT hG hB hJ hf _ i (Nat.le_refl _) hI, show sc_w xst b i = pl_wt (b i) from if_neg ((st_f hT hf sa la (by omega)).mpr hI)]
      · rw [pl_C_n hL]
        refine c1 i (by omega) ?_
        by_cases z : xbg i = 0
        · exact z
        · obtain ⟨g, hg, q1, q2, q3⟩ := (hG i (by omega)).mp z
          have := pl_apart sa la q1 q2
          subst this
          exact absurd q3 hL
  have N : j = 3 → wX_admit_4 post xrc (nI n) (nI (pl_nf b)) xrn xra xfi xfp xgn xac xlr xhm xrp xrA xrB xrC xby xhd xst xbg xco xen xre xld xim xic xih xif xop xbp xbq xsc xna xhe xlo xsk 1 (-1) (-1) := fun e => br_t ba_m1lt (br_t rfl (k3 e))
  have c0 : (0 : Int32).toNatClampNeg = 0 := by decide
  have c1 : (1 : Int32).toNatClampNeg = 1 := by decide
  have c2 : (2 : Int32).toNatClampNeg = 2 := by decide
  have v0 : vp_in (0 : Int32) 3 := vp_in_nI (n := 0) (by omega) (by omega)
  have v1 : vp_in (1 : Int32) 3 := vp_in_nI (n := 1) (by omega) (by omega)
  have v2 : vp_in (2 : Int32) 3 := vp_in_nI (n := 2) (by omega) (by omega)
  have m0 : (0 : Int32) + (-1) = -1 := by decide
  have m1 : (1 : Int32) + (-1) = 0 := by decide
  have m2 : (2 : Int32) + (-1) = 1 := by decide
  have S0 : ∀ x1 : Int32, (xld 0 = 0 → wX_admit_4 post xrc (nI n) (nI (pl_nf b)) xrn xra xfi xfp xgn xac xlr xhm xrp xrA xrB xrC xby xhd xst xbg xco xen xre xld xim xic xih xif xop xbp xbq xsc xna xhe xlo xsk 1 0 (-1)) → (¬ xld 0 = 0 → wX_admit_4 post xrc (nI n) (nI (pl_nf b)) xrn xra xfi xfp xgn xac xlr xhm xrp xrA xrB xrC xby xhd xst xbg xco xen xre xld xim xic xih xif xop xbp xbq xsc xna xhe xlo xsk 1 x1 (-1)) → wX_admit_4 post xrc (nI n) (nI (pl_nf b)) xrn xra xfi xfp xgn xac xlr xhm xrp xrA xrB xrC xby xhd xst xbg xco xen xre xld xim xic xih xif xop xbp xbq xsc xna xhe xlo xsk 2 x1 0 := by
    intro x1 a1 a2
    unfold wX_admit_4
    rw [c0]
    exact br_f (by decide) ⟨v0, br_c (fun z => nm_r m0 (a1 z)) fun z => nm_r m0 (a2 z)⟩
  have S1 : ∀ x1 : Int32, (xld 1 = 0 → wX_admit_4 post xrc (nI n) (nI (pl_nf b)) xrn xra xfi xfp xgn xac xlr xhm xrp xrA xrB xrC xby xhd xst xbg xco xen xre xld xim xic xih xif xop xbp xbq xsc xna xhe xlo xsk 2 1 0) → (¬ xld 1 = 0 → wX_admit_4 post xrc (nI n) (nI (pl_nf b)) xrn xra xfi xfp xgn xac xlr xhm xrp xrA xrB xrC xby xhd xst xbg xco xen xre xld xim xic xih xif xop xbp xbq xsc xna xhe xlo xsk 2 x1 0) → wX_admit_4 post xrc (nI n) (nI (pl_nf b)) xrn xra xfi xfp xgn xac xlr xhm xrp xrA xrB xrC xby xhd xst xbg xco xen xre xld xim xic xih xif xop xbp xbq xsc xna xhe xlo xsk 3 x1 1 := by
    intro x1 a1 a2
    unfold wX_admit_4
    rw [c1]
    exact br_f (by decide) ⟨v1, br_c (fun z => nm_r m1 (a1 z)) fun z => nm_r m1 (a2 z)⟩
  have S2 : ∀ x1 : Int32, (xld 2 = 0 → wX_admit_4 post xrc (nI n) (nI (pl_nf b)) xrn xra xfi xfp xgn xac xlr xhm xrp xrA xrB xrC xby xhd xst xbg xco xen xre xld xim xic xih xif xop xbp xbq xsc xna xhe xlo xsk 3 2 1) → (¬ xld 2 = 0 → wX_admit_4 post xrc (nI n) (nI (pl_nf b)) xrn xra xfi xfp xgn xac xlr xhm xrp xrA xrB xrC xby xhd xst xbg xco xen xre xld xim xic xih xif xop xbp xbq xsc xna xhe xlo xsk 3 x1 1) → wX_admit_4 post xrc (nI n) (nI (pl_nf b)) xrn xra xfi xfp xgn xac xlr xhm xrp xrA xrB xrC xby xhd xst xbg xco xen xre xld xim xic xih xif xop xbp xbq xsc xna xhe xlo xsk 4 x1 2 := by
    intro x1 a1 a2
    unfold wX_admit_4
    rw [c2]
    exact br_f (by decide) ⟨v2, br_c (fun z => nm_r m2 (a1 z)) fun z => nm_r m2 (a2 z)⟩
  have J0 : xld 0 = 0 → wX_admit_4 post xrc (nI n) (nI (pl_nf b)) xrn xra xfi xfp xgn xac xlr xhm xrp xrA xrB xrC xby xhd xst xbg xco xen xre xld xim xic xih xif xop xbp xbq xsc xna xhe xlo xsk 1 0 (-1) := by
    intro z
    have : j = 0 := by
      by_cases e : j = 0
      · exact e
      · exact absurd z (h1 0 (by omega))
    subst this
    exact G (by omega)
  have J1 : ¬ xld 0 = 0 → xld 1 = 0 → wX_admit_4 post xrc (nI n) (nI (pl_nf b)) xrn xra xfi xfp xgn xac xlr xhm xrp xrA xrB xrC xby xhd xst xbg xco xen xre xld xim xic xih xif xop xbp xbq xsc xna xhe xlo xsk 1 1 (-1) := by
    intro z0 z
    have : j = 1 := by
      by_cases e : j = 0
      · subst e; exact absurd (h2 (by omega)) z0
      · by_cases e' : j = 1
        · exact e'
        · exact absurd z (h1 1 (by omega))
    subst this
    exact G (by omega)
  have J2 : ¬ xld 0 = 0 → ¬ xld 1 = 0 → xld 2 = 0 → wX_admit_4 post xrc (nI n) (nI (pl_nf b)) xrn xra xfi xfp xgn xac xlr xhm xrp xrA xrB xrC xby xhd xst xbg xco xen xre xld xim xic xih xif xop xbp xbq xsc xna xhe xlo xsk 1 2 (-1) := by
    intro z0 z1 z
    have : j = 2 := by
      by_cases e : j = 0
      · subst e; exact absurd (h2 (by omega)) z0
      · by_cases e' : j = 1
        · subst e'; exact absurd (h2 (by omega)) z1
        · by_cases e2 : j = 2
          · exact e2
          · exact absurd z (h1 2 (by omega))
    subst this
    exact G (by omega)
  have J3 : ¬ xld 0 = 0 → ¬ xld 1 = 0 → ¬ xld 2 = 0 → wX_admit_4 post xrc (nI n) (nI (pl_nf b)) xrn xra xfi xfp xgn xac xlr xhm xrp xrA xrB xrC xby xhd xst xbg xco xen xre xld xim xic xih xif xop xbp xbq xsc xna xhe xlo xsk 1 (-1) (-1) := by
    intro z0 z1 z
    refine N ?_
    by_cases e : j = 0
    · subst e; exact absurd (h2 (by omega)) z0
    · by_cases e' : j = 1
      · subst e'; exact absurd (h2 (by omega)) z1
      · by_cases e2 : j = 2
        · subst e2; exact absurd (h2 (by omega)) z
        · omega
  refine ⟨4, S2 _ (fun z2 => S1 _ (fun z1 => S0 _ J0 fun z0 => J1 z0 z1) fun z1 => S0 _ J0 fun z0 => J2 z0 z1 z2) fun z2 => S1 _ (fun z1 => S0 _ J0 fun z0 => J1 z0 z1) fun z1 => S0 _ J0 fun z0 => J3 z0 z1 z2⟩
def cm_f (M : Nat → Nat) (base : Nat) : Nat → (Nat → Nat)
  | 0 => M
  | k + 1 => um_f (cm_f M base k) (base + k) (M (360 + k))
theorem cm_out {M : Nat → Nat} {base j : Nat} : ∀ m, (j < base ∨ base + m ≤ j) → cm_f M base m j = M j := by
  intro m
  induction m with
  | zero => intro _; rfl
  | succ m ih =>
    intro h
    show um_f (cm_f M base m) (base + m) (M (360 + m)) j = M j
    rw [um_n (by omega), ih (by omega)]
theorem cm_in {M : Nat → Nat} {base k : Nat} : ∀ m, k < m → cm_f M base m (base + k) = M (360 + k) := by
  intro m
  induction m with
  | zero => intro h; omega
  | succ m ih =>
    intro h
    show um_f (cm_f M base m) (base + m) (M (360 + m)) (base + k) = M (360 + k)
    by_cases e : k = m
    · subst e; exact um_s
    · rw [um_n (by omega), ih (by omega)]
theorem cm_256 {M : Nat → Nat} {base : Nat} (h : ∀ i, M i < 256) : ∀ m i, cm_f M base m i < 256 := by
  intro m
  induction m with
  | zero => exact h
  | succ m ih =>
    intro i
    show um_f (cm_f M base m) (base + m) (M (360 + m)) i < 256
    by_cases e : i = base + m
    · rw [e, um_s]; exact h _
    · rw [um_n e]; exact ih i
theorem y_sub24 {post : Int32 → SY → Prop} {j : Nat} (hn : n ≤ 120) (hl : yle 3 = nI n) (hj : j ≤ 3) (h1 : ∀ x, x < j → ¬ ypr x = 0) (h2 : j < 3 → ypr j = 0)
    (k3 : j = 3 → post 8 (yru, ypl, ynu, yps, yfi, yac, yre, yme, yrp, yrq, yrl, fun i => nI (M i), yle, ypr, ywa, ybp, ybq, ybo, ysc, yfn, yat, yhi, ylo, yen)) (k : j < 3 → post 0 (yru, ypl, nI j, yps, yfi, yac, yre, yme, yrp, yrq, yrl, fun i => nI (cm_f M (j * 120) n i), upd yle 3 0, upd ypr j 1, ywa, ybp, ybq, ybo, ysc, yfn, yat, yhi, ylo, yen)) :
    ∃ m, wY_submit_24 post yru ypl ynu yps yfi yac yre yme yrp yrq yrl (fun i => nI (M i)) yle ypr ywa ybp ybq ybo ysc yfn yat yhi ylo yen m 0 := by
  have T : wY_submit_44 post (nI j) yru ypl ynu yps yfi yac yre yme yrp yrq yrl (fun i => nI (M i)) yle ypr ywa ybp ybq ybo ysc yfn yat yhi ylo yen := by
    by_cases e : j = 3
    · exact br_t (by rw [e]; rfl) (k3 e)
    · refine br_f (ba_ne (b := 3) (by omega) (by omega) e) ⟨n + 1, ?_⟩
      have L : ∀ d i, i + d = n → wY_submit_54 post (nI j) yru ypl ynu yps yfi yac yre yme (d + 1) (nI i) yrp yrq yrl (fun t => nI (cm_f M (j * 120) i t)) yle ypr ywa ybp ybq ybo ysc yfn yat yhi ylo yen := by
        intro d
        induction d with
        | zero =>
          intro i hi
          have : i = n := by omega
          subst this
          refine br_t (by rw [hl]; exact nI_le (Nat.le_refl _) (by omega)) ⟨vp_in_nI (by omega) (by omega), nm_r (show _ = upd ypr j 1 by rw [nI_clamp (by omega), ba_vb1]) (nm_e (k (by omega)))⟩
        | succ d ih =>
          intro i hi
          have e1 : (360 : Int32) + nI i = nI (360 + i) := nI_add 360 i
          have e2 : nI j * 120 + nI i = nI (j * 120 + i) := by rw [show nI j * 120 = nI (j * 120) from pk_mul j 120, nI_add]
          refine br_f (by rw [hl]; exact nI_ge (by omega) (by omega)) ⟨by rw [e1]; exact vp_in_nI (by omega) (by omega), by rw [e2]; exact vp_in_nI (by omega) (by omega), nm_r ?_ (nm_r (nI_1 i) (ih (i + 1) (by omega)))⟩
          dsimp only
          rw [e1, e2, nI_clamp (by omega), nI_clamp (by omega), um_upd, cm_out (j := 360 + i) i (by omega)]
          rfl
      exact L n 0 (by omega)
  have L : ∀ d x, x + d = j → wY_submit_24 post yru ypl ynu yps yfi yac yre yme yrp yrq yrl (fun i => nI (M i)) yle ypr ywa ybp ybq ybo ysc yfn yat yhi ylo yen (d + 1) (nI x) := by
    intro d
    induction d with
    | zero =>
      intro x hx
      have : x = j := by omega
      subst this
      refine pk_le 3 x (fun _ => T) fun h => ⟨vp_in_nI (by omega) (by omega), br_t ?_ T⟩
      rw [nI_clamp (by omega)]; exact h2 h
    | succ d ih =>
      intro x hx
      refine br_f (nI_ge (b := 3) (by omega) (by decide)) ⟨vp_in_nI (by omega) (by omega), br_f ?_ (nm_r (nI_1 x) (ih (x + 1) (by omega)))⟩
      rw [nI_clamp (by omega)]; exact h1 x (by omega)
  exact ⟨_, L j 0 (by omega)⟩
theorem i_vc_submit {k : Nat} {u : SX} {v : SY} (I : i_Rel k u v) (hk : k + 5 ≤ 2560) : wpX_submit (fun r u' => wpY_submit (fun r' v' => r' = r ∧ i_Rel (k + 5) u' v') v) u := by
  obtain ⟨r, n, pt, M, xfc, xrn, xra, xfi, xfp, xgn, xac, xlr, xhm, xrp, xrA, xrB, xrC, xby, xhd, xst, xbg, xco, xen, xre, xld, xim, xic, xih, xif, xop, xbp, xbq, xsc, xna, xhe, xlo, xsk, yps, yfi, yac, yrp, yrq, yrl, yle, ywa, yfn, yat, yhi, ylo, yen, rfl, rfl, h⟩ := I
  obtain ⟨hR, ⟨hn, hl, hM, hi, hb⟩, hP, hX⟩ := h
  have hb3 : ∀ i, i < 120 → xby i = nI (re_b M 3 i) := fun i h => by rw [hb i h, y_b3 (M := M) h]
  have hvb := y_hvb hM 3
  refine x_submit (b := re_b M 3) (pt := pt) hn hb3 hvb hR.1 (fun i hi => ⟨(hR.2 i hi).1, (hR.2 i hi).2.1⟩) (fun w pl hV hw xfc xrn xra xhd xst xen xre => ?_) fun hV hW xrn xra xhd xst xen xre h0 hT => ?_
  · unfold wpY_submit
    dsimp only
    refine y_checked (xrp := xrp) (xrA := xrA) (xrB := xrB) (xrC := xrC) hn hl hM hR (fun w' pl' hV' hw' yps ywa => br_t rfl ?_) fun hV' yps ywa => ?_
    · obtain ⟨rfl, rfl⟩ := vd_u de_u hV' hV
      exact ⟨rfl, re_mk ⟨hR, ⟨hn, hl, hM, hi, hb⟩, hP, hX⟩⟩
    · obtain ⟨rfl, rfl⟩ := vd_u de_u hV' hV
      exact absurd nI_0 hw
  · obtain ⟨j, hj, h1, h2⟩ := fi_rst 3 (fun x => xld x = 0)
    refine x_admit (b := re_b M 3) hW h0 hb3 hvb hT hj h1 h2 (fun e3 => ?_) fun hj3 xbg xco hco => ?_
    · unfold wpY_submit
      dsimp only
      refine y_checked (xrp := xrp) (xrA := xrA) (xrB := xrB) (xrC := xrC) hn hl hM hR (fun w' pl' hV' hw' yps ywa => ?_) fun hV' yps ywa => br_f ba_10 ?_
      · exact absurd (vd_u de_u hV' hV).1 hw'
      · exact y_sub24 hn hl hj h1 h2 (fun _ => ⟨rfl, re_mk ⟨hR, ⟨hn, hl, hM, hi, hb⟩, hP, hX⟩⟩) fun z => absurd z (by omega)
    · unfold wpY_submit
      dsimp only
      refine y_checked (xrp := xrp) (xrA := xrA) (xrB := xrB) (xrC := xrC) hn hl hM hR (fun w' pl' hV' hw' yps ywa => ?_) fun hV' yps ywa => br_f ba_10 ?_
      · exact absurd (vd_u de_u hV' hV).1 hw'
      · refine y_sub24 hn hl hj h1 h2 (fun z => absurd z (by omega)) fun _ => ⟨rfl, ?_⟩
        have h4 := hW.2.1.2.2.2.1
        have hag : ∀ i, i < n → re_b (cm_f M (j * 120) n) j i = re_b M 3 i := by
          intro i hin
          rw [re_bi (show i < 120 by omega), cm_in n hin, y_b3 (M := M) (show i < 120 by omega)]
        have hF := hW.2.1
        refine re_mk (n := 0) (M := cm_f M (j * 120) n) ⟨hR, ⟨by omega, pk_us, cm_256 hM n, fun i h3 => ?_, fun i h3 => ?_⟩, fun p hp hz => ?_, fun x hx hz => ?_⟩
        · by_cases e : j * 120 ≤ i ∧ i < j * 120 + n
          · obtain ⟨i', rfl⟩ : ∃ i', i = j * 120 + i' := ⟨i - j * 120, by omega⟩
            rw [cp_in n (by omega), cm_in n (by omega)]
            exact hb i' (by omega)
          · rw [cp_out n (by omega), cm_out n (by omega)]
            exact hi i h3
        · rw [cm_out n (by omega)]
          exact hb i h3
        · by_cases e : p = j
          · subst e
            have e2 := cg_nf hF hag
            refine ⟨⟨n, cg_WF hW hag⟩, by rw [pk_us, e2], fun f hf => ?_⟩
            rw [e2] at hf
            refine ⟨?_, fun i hI => ?_⟩
            · rw [cp_in _ hf, h0 f hf, nI_add, cg_hd hF hag f (by omega)]
            · have hI' := (cg_IS hF hag hf).mp hI
              have he := pl_ef hF hf
              have la := hI'.1
              rw [cp_in n (by omega), cg_C hF hag hf (hW.2.2 f hf).1 la]
              exact hco f hf i hI'
          · rw [pk_un e] at hz
            have eb : re_b (cm_f M (j * 120) n) p = re_b M p := re_bc fun i h3 => cm_out n (by omega)
            rw [eb]
            obtain ⟨⟨n', w1⟩, w2, w3⟩ := hP p hp hz
            refine ⟨⟨n', w1⟩, by rw [pk_un e]; exact w2, fun f hf => ?_⟩
            have w4 := w1.2.1.2.2.2.1
            refine ⟨?_, fun i hI => ?_⟩
            · rw [cp_out _ (by omega)]
              exact (w3 f hf).1
            · have he := pl_ef w1.2.1 hf
              have la := hI.1
              have w5 := w1.1
              rw [cp_out _ (by omega)]
              exact (w3 f hf).2 i hI
        · obtain ⟨p, q, g1, g2, g3, g4, g5⟩ := hX x hx hz
          refine ⟨p, q, g1, g2, g3, ?_, g5⟩
          by_cases e : p = j
          · subst e; rw [pk_us]; exact ba_10
          · rw [pk_un e]; exact g4
end C8
