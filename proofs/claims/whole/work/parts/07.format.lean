section A8
variable {r n : Nat} {pt M b : Nat → Nat} {xrc xbc xfc xrn xra xfi xfp xgn xac xlr : Int32} {xhm : Int64} {xrp xrA xrB xrC xby xhd xst xbg xco xen xre xld xim xic xih xif xop xbp xbq xsc xna xhe xlo xsk : Nat → Int32} {yru ypl ynu yps yfi yac yre : Int32} {yme : Int64} {yrp yrq yrl yby yle ypr ywa ybp ybq ybo ysc yfn yat yhi ylo yen : Nat → Int32}
/-! the format: one verdict (finding, place) -/
def ff_s (b : Nat → Nat) (n a lo hi : Nat) (k : Nat × Nat) : Nat × Nat := if n ≤ a then (1, n) else if b a < lo ∨ hi < b a then (2, a) else k
def ff_fn (b : Nat → Nat) (n : Nat) : Nat → Nat → Nat × Nat
  | 0, f => if pl_hd b f = n then (0, 0) else (3, pl_hd b f)
  | d + 1, f => ff_s b n (pl_hd b f) 0 2 (ff_s b n (pl_hd b f + 1) 0 3 (ff_s b n (pl_hd b f + 2) 1 40 (if n < pl_hd b (f + 1) then (1, n) else ff_fn b n d (f + 1))))
def ff_im (b : Nat → Nat) (n : Nat) : Nat → Nat → Nat × Nat
  | 0, i => ff_s b n (2 + i) 1 4 (ff_fn b n (pl_nf b) 0)
  | d + 1, i => ff_s b n (2 + i) 0 7 (ff_im b n d (i + 1))
def ff_v (b : Nat → Nat) (n : Nat) : Nat × Nat := ff_s b n 0 80 80 (ff_s b n 1 0 4 (ff_im b n (3 * b 1) 0))
theorem ff_c (b : Nat → Nat) (n a lo hi : Nat) (k : Nat × Nat) : (a < n ∧ lo ≤ b a ∧ b a ≤ hi ∧ ff_s b n a lo hi k = k) ∨ (n ≤ a ∧ ff_s b n a lo hi k = (1, n)) ∨ (a < n ∧ (b a < lo ∨ hi < b a) ∧ ff_s b n a lo hi k = (2, a)) := by
  unfold ff_s
  by_cases h : n ≤ a
  · exact Or.inr (Or.inl ⟨h, if_pos h⟩)
  · rw [if_neg h]
    by_cases h2 : b a < lo ∨ hi < b a
    · exact Or.inr (Or.inr ⟨by omega, h2, if_pos h2⟩)
    · exact Or.inl ⟨by omega, by omega, by omega, if_neg h2⟩
theorem ff_s0 {b : Nat → Nat} {n a lo hi : Nat} {k : Nat × Nat} (h : (ff_s b n a lo hi k).1 = 0) : a < n ∧ lo ≤ b a ∧ b a ≤ hi ∧ k.1 = 0 := by
  rcases ff_c b n a lo hi k with ⟨h1, h2, h3, e⟩ | ⟨_, e⟩ | ⟨_, _, e⟩
  · rw [e] at h; exact ⟨h1, h2, h3, h⟩
  · rw [e] at h; exact absurd h (by omega)
  · rw [e] at h; exact absurd h (by omega)
theorem ff_fn0 {b : Nat → Nat} {n : Nat} : ∀ d f, (ff_fn b n d f).1 = 0 → pl_hd b (f + d) = n ∧ ∀ g, f ≤ g → g < f + d → b (pl_hd b g) ≤ 2 ∧ b (pl_hd b g + 1) ≤ 3 ∧ 1 ≤ b (pl_hd b g + 2) ∧ b (pl_hd b g + 2) ≤ 40 := by
  intro d
  induction d with
  | zero =>
    intro f h
    unfold ff_fn at h
    by_cases e : pl_hd b f = n
    · exact ⟨e, fun g h1 h2 => absurd h2 (by omega)⟩
    · rw [if_neg e] at h; exact absurd h (by omega)
  | succ d ih =>
    intro f h
    unfold ff_fn at h
    obtain ⟨h1, _, h2, h⟩ := ff_s0 h
    obtain ⟨h3, _, h4, h⟩ := ff_s0 h
    obtain ⟨h5, h6, h7, h⟩ := ff_s0 h
    by_cases e : n < pl_hd b (f + 1)
    · rw [if_pos e] at h; exact absurd h (by omega)
    · rw [if_neg e] at h
      obtain ⟨g1, g2⟩ := ih (f + 1) h
      refine ⟨by rw [show f + (d + 1) = f + 1 + d by omega]; exact g1, fun g hg1 hg2 => ?_⟩
      by_cases eg : g = f
      · subst eg; exact ⟨h2, h4, h6, h7⟩
      · exact g2 g (by omega) (by omega)
theorem ff_im0 {b : Nat → Nat} {n : Nat} : ∀ d i, (ff_im b n d i).1 = 0 → (∀ j, i ≤ j → j < i + d → b (2 + j) ≤ 7) ∧ 1 ≤ b (2 + (i + d)) ∧ b (2 + (i + d)) ≤ 4 ∧ (ff_fn b n (pl_nf b) 0).1 = 0 := by
  intro d
  induction d with
  | zero =>
    intro i h
    unfold ff_im at h
    obtain ⟨_, h2, h3, h4⟩ := ff_s0 h
    exact ⟨fun j _ _ => absurd (show j < i by omega) (by omega), h2, h3, h4⟩
  | succ d ih =>
    intro i h
    unfold ff_im at h
    obtain ⟨_, _, h2, h⟩ := ff_s0 h
    obtain ⟨g1, g2⟩ := ih (i + 1) h
    rw [show i + (d + 1) = i + 1 + d by omega]
    refine ⟨fun j h3 h4 => ?_, g2⟩
    by_cases e : j = i
    · subst e; exact h2
    · exact g1 j (by omega) (by omega)
theorem ff_v0 {b : Nat → Nat} {n : Nat} (h : (ff_v b n).1 = 0) : pl_Fmt b n := by
  unfold ff_v at h
  obtain ⟨_, _, _, h⟩ := ff_s0 h
  obtain ⟨_, _, h1, h⟩ := ff_s0 h
  obtain ⟨h2, h3, h4, h5⟩ := ff_im0 _ _ h
  obtain ⟨h6, h7⟩ := ff_fn0 _ _ h5
  have e : pl_nf b = b (2 + (0 + 3 * b 1)) := by unfold pl_nf; rw [Nat.zero_add]
  refine ⟨h1, fun i hi => h2 i (by omega) (by omega), by rw [e]; exact h3, by rw [e]; exact h4, fun f hf => h7 f (by omega) (by omega), by rw [Nat.zero_add] at h6; exact h6⟩
theorem x_readS {post : Int32 → SX → Prop} {lo hi : Int32} (h : ¬ xfi = 0) (k : post 0 (xrc, xbc, xfc, xrn, xra, xfi, xfp, xgn, xac, xlr, xhm, xrp, xrA, xrB, xrC, xby, xhd, xst, xbg, xco, xen, xre, xld, xim, xic, xih, xif, xop, xbp, xbq, xsc, xna, xhe, xlo, xsk)) : wpX_readNumber post (xrc, xbc, xfc, xrn, xra, xfi, xfp, xgn, xac, xlr, xhm, xrp, xrA, xrB, xrC, xby, xhd, xst, xbg, xco, xen, xre, xld, xim, xic, xih, xif, xop, xbp, xbq, xsc, xna, xhe, xlo, xsk) lo hi := br_f h k
theorem x_read {post : Int32 → SX → Prop} {a lo hi : Nat} {K : Nat × Nat} (hn : n ≤ 120) (hb : ∀ i, i < 120 → xby i = nI (b i)) (hv : ∀ i, b i < 256) (hlo : lo < 256) (hhi : hi < 256) (ha : a < 1000)
    (k0 : a < n → lo ≤ b a → b a ≤ hi → ff_s b n a lo hi K = K → post (nI (b a)) (xrc, nI n, xfc, xrn, nI (a + 1), 0, xfp, xgn, xac, xlr, xhm, xrp, xrA, xrB, xrC, xby, xhd, xst, xbg, xco, xen, xre, xld, xim, xic, xih, xif, xop, xbp, xbq, xsc, xna, xhe, xlo, xsk))
    (k1 : ∀ w p, ¬ nI w = 0 → w ≠ 0 → ff_s b n a lo hi K = (w, p) → post 0 (xrc, nI n, xfc, xrn, nI a, nI w, nI p, xgn, xac, xlr, xhm, xrp, xrA, xrB, xrC, xby, xhd, xst, xbg, xco, xen, xre, xld, xim, xic, xih, xif, xop, xbp, xbq, xsc, xna, xhe, xlo, xsk)) :
    wpX_readNumber post (xrc, nI n, xfc, xrn, nI a, 0, xfp, xgn, xac, xlr, xhm, xrp, xrA, xrB, xrC, xby, xhd, xst, xbg, xco, xen, xre, xld, xim, xic, xih, xif, xop, xbp, xbq, xsc, xna, xhe, xlo, xsk) (nI lo) (nI hi) := by
  unfold wpX_readNumber
  dsimp only
  refine br_t rfl ?_
  rcases ff_c b n a lo hi K with ⟨h1, h2, h3, e⟩ | ⟨h1, e⟩ | ⟨h1, h2, e⟩
  · refine br_t (nI_lt h1 (by omega)) ⟨vp_in_nI (by omega) (by omega), ?_⟩
    rw [nI_clamp (by omega), hb a (by omega)]
    have := hv a
    exact nm_e (br_f (nI_nlt h2 (by omega)) (br_t (nI_le h3 (by omega)) (nm_r (nI_1 a) (k0 h1 h2 h3 e))))
  · exact br_f (nI_nlt h1 (by omega)) (k1 1 n (by decide) (by omega) e)
  · refine br_t (nI_lt h1 (by omega)) ⟨vp_in_nI (by omega) (by omega), ?_⟩
    rw [nI_clamp (by omega), hb a (by omega)]
    have := hv a
    refine nm_e (br_c (fun _ => k1 2 a (by decide) (by omega) e) fun z1 => br_c (fun z2 => ?_) fun _ => k1 2 a (by decide) (by omega) e)
    rw [nI_ltI (by omega) (by omega)] at z1
    rw [nI_leI (by omega) (by omega)] at z2
    exact absurd h2 (by omega)
theorem x_skip56 {post : SX → Prop} {fc : Nat} (hfc : fc ≤ 4) (hw : ¬ xfi = 0) (K : ∀ (xfc xra : Int32) (xhd : Nat → Int32), post (xrc, xbc, xfc, xrn, xra, xfi, xfp, xgn, xac, xlr, xhm, xrp, xrA, xrB, xrC, xby, xhd, xst, xbg, xco, xen, xre, xld, xim, xic, xih, xif, xop, xbp, xbq, xsc, xna, xhe, xlo, xsk)) :
    ∀ d f, f + d = fc → ∀ xhd, wX_checkFormat_56 post (d + 1) (nI f) xrc xbc (nI fc) xrn xra xfi xfp xgn xac xlr xhm xrp xrA xrB xrC xby xhd xst xbg xco xen xre xld xim xic xih xif xop xbp xbq xsc xna xhe xlo xsk := by
  intro d
  induction d with
  | zero =>
    intro f hf xhd
    exact br_t (nI_le (by omega) (by omega)) (br_f hw (K (nI fc) xra xhd))
  | succ d ih =>
    intro f hf xhd
    refine br_f (nI_ge (by omega) (by omega)) ⟨vp_in_nI (by omega) (by omega), nm_e ?_⟩
    refine x_readS hw ?_
    refine x_readS hw ?_
    refine x_readS hw ?_
    refine br_f hw ?_
    exact nm_r (nI_1 f) (ih (f + 1) (by omega) _)
theorem x_skip25 {post : SX → Prop} {c : Nat} (hc : c ≤ 12) (hw : ¬ xfi = 0) (K : ∀ (xfc xra : Int32) (xhd : Nat → Int32), post (xrc, xbc, xfc, xrn, xra, xfi, xfp, xgn, xac, xlr, xhm, xrp, xrA, xrB, xrC, xby, xhd, xst, xbg, xco, xen, xre, xld, xim, xic, xih, xif, xop, xbp, xbq, xsc, xna, xhe, xlo, xsk)) :
    ∀ d i, i + d = c → wX_checkFormat_25 post (nI c) (d + 1) (nI i) xrc xbc xfc xrn xra xfi xfp xgn xac xlr xhm xrp xrA xrB xrC xby xhd xst xbg xco xen xre xld xim xic xih xif xop xbp xbq xsc xna xhe xlo xsk := by
  intro d
  induction d with
  | zero =>
    intro i hi
    refine br_t (nI_le (by omega) (by omega)) ?_
    refine x_readS hw ?_
    exact ⟨1, x_skip56 (fc := 0) (by omega) hw K 0 0 rfl xhd⟩
  | succ d ih =>
    intro i hi
    refine br_f (nI_ge (by omega) (by omega)) ?_
    refine x_readS hw ?_
    exact nm_r (nI_1 i) (ih (i + 1) (by omega))
/-- what the component's format check must give: v the verdict -/
def ff_F (post : SX → Prop) (b : Nat → Nat) (g : Int32 → Int32 → Int32 → Int32 → (Nat → Int32) → SX) (p0 : Int32) (v : Nat × Nat) : Prop :=
  (v.1 = 0 → ∀ (xfc xra : Int32) (xhd : Nat → Int32), xfc = nI (pl_nf b) → (∀ f, f < pl_nf b → xhd f = nI (pl_hd b f)) → post (g xfc xra 0 p0 xhd)) ∧
  (v.1 ≠ 0 → ∀ (xfc xra : Int32) (xhd : Nat → Int32), post (g xfc xra (nI v.1) (nI v.2) xhd))
theorem x_fn56 {post : SX → Prop} (hn : n ≤ 120) (hb : ∀ i, i < 120 → xby i = nI (b i)) (hv : ∀ i, b i < 256) (hF : pl_nf b ≤ 4) :
    ∀ d f, f + d = pl_nf b → (pl_hd b f ≤ n) → ff_F post b (fun xfc xra xfi xfp xhd => (xrc, nI n, xfc, xrn, xra, xfi, xfp, xgn, xac, xlr, xhm, xrp, xrA, xrB, xrC, xby, xhd, xst, xbg, xco, xen, xre, xld, xim, xic, xih, xif, xop, xbp, xbq, xsc, xna, xhe, xlo, xsk)) xfp (ff_fn b n d f) → ∀ xhd, (∀ g, g < f → xhd g = nI (pl_hd b g)) →
      wX_checkFormat_56 post (d + 1) (nI f) xrc (nI n) (nI (pl_nf b)) xrn (nI (pl_hd b f)) 0 xfp xgn xac xlr xhm xrp xrA xrB xrC xby xhd xst xbg xco xen xre xld xim xic xih xif xop xbp xbq xsc xna xhe xlo xsk := by
  intro d
  induction d with
  | zero =>
    intro f hf hle K xhd hh
    refine br_t (nI_le (by omega) (by omega)) (br_t rfl ?_)
    unfold ff_fn at K
    by_cases e : pl_hd b f = n
    · rw [if_pos e] at K
      exact br_t (nI_le (by omega) (by omega)) (K.1 rfl _ _ _ rfl fun g hg => hh g (by omega))
    · rw [if_neg e] at K
      exact br_f (nI_ge (by omega) (by omega)) (K.2 (by omega) _ _ _)
  | succ d ih =>
    intro f hf hle K xhd hh
    have hS : ∀ w p : Nat, ¬ nI w = 0 → (ff_fn b n (d + 1) f = (w, p)) → w ≠ 0 → ∀ (xfc xra : Int32) (xhd : Nat → Int32), post (xrc, nI n, xfc, xrn, xra, nI w, nI p, xgn, xac, xlr, xhm, xrp, xrA, xrB, xrC, xby, xhd, xst, xbg, xco, xen, xre, xld, xim, xic, xih, xif, xop, xbp, xbq, xsc, xna, xhe, xlo, xsk) := by
      intro w p _ e hw xfc xra xhd
      rw [e] at K
      exact K.2 hw _ _ _
    refine br_f (nI_ge (by omega) (by omega)) ⟨vp_in_nI (by omega) (by omega), nm_r (by rw [nI_clamp (by omega)]) ?_⟩
    refine x_read (b := b) (lo := 0) (hi := 2) hn hb hv (by omega) (by omega) (by omega) (K := ff_s b n (pl_hd b f + 1) 0 3 (ff_s b n (pl_hd b f + 2) 1 40 (if n < pl_hd b (f + 1) then (1, n) else ff_fn b n d (f + 1)))) (fun h1 h2 h3 e1 => ?_) (fun w p hz hw e => ?_)
    · refine x_read (b := b) (lo := 0) (hi := 3) hn hb hv (by omega) (by omega) (by omega) (K := (ff_s b n (pl_hd b f + 2) 1 40 (if n < pl_hd b (f + 1) then (1, n) else ff_fn b n d (f + 1)))) (fun h4 h5 h6 e2 => ?_) (fun w p hz hw e => ?_)
      · refine x_read (b := b) (lo := 1) (hi := 40) hn hb hv (by omega) (by omega) (by omega) (K := (if n < pl_hd b (f + 1) then (1, n) else ff_fn b n d (f + 1))) (fun h7 h8 h9 e3 => ?_) (fun w p hz hw e => ?_)
        · have E : ff_fn b n (d + 1) f = if n < pl_hd b (f + 1) then (1, n) else ff_fn b n d (f + 1) := e1.trans (e2.trans e3)
          have ad : nI (pl_hd b f + 1 + 1 + 1) + nI (b (pl_hd b f + 2)) = nI (pl_hd b (f + 1)) := by rw [nI_add]; rfl
          have hb1 : pl_hd b (f + 1) < 1000 := by
            have h9' : b (pl_hd b f + 2) ≤ 40 := h9
            show pl_hd b f + 3 + b (pl_hd b f + 2) < 1000
            omega
          refine br_t rfl ?_
          by_cases e : n < pl_hd b (f + 1)
          · rw [if_pos e] at E
            refine br_f (by rw [show (nI (pl_hd b f + 1 + 1 + 1) + nI (b (pl_hd b f + 1 + 1))) = nI (pl_hd b (f + 1)) from ad]; exact nI_ge e (by omega)) ?_
            exact nm_r (nI_1 f) (x_skip56 hF (by decide) (hS 1 n (by decide) E (by omega)) d (f + 1) (by omega) _)
          · rw [if_neg e] at E
            refine br_t (by rw [show (nI (pl_hd b f + 1 + 1 + 1) + nI (b (pl_hd b f + 1 + 1))) = nI (pl_hd b (f + 1)) from ad]; exact nI_le (by omega) (by omega)) (nm_r ad (nm_r (nI_1 f) ?_))
            refine ih (f + 1) (by omega) (by omega) (by rw [E] at K; exact K) _ (fun g hg => ?_)
            by_cases eg : g = f
            · subst eg; exact pk_us
            · rw [pk_un eg]; exact hh g (by omega)
        · refine br_f hz ?_
          exact nm_r (nI_1 f) (x_skip56 hF hz (hS w p hz (e1.trans (e2.trans e)) hw) d (f + 1) (by omega) _)
      · refine x_readS hz ?_
        refine br_f hz ?_
        exact nm_r (nI_1 f) (x_skip56 hF hz (hS w p hz (e1.trans e) hw) d (f + 1) (by omega) _)
    · refine x_readS hz ?_
      refine x_readS hz ?_
      refine br_f hz ?_
      exact nm_r (nI_1 f) (x_skip56 hF hz (hS w p hz e hw) d (f + 1) (by omega) _)
theorem x_im25 {post : SX → Prop} (hn : n ≤ 120) (hb : ∀ i, i < 120 → xby i = nI (b i)) (hv : ∀ i, b i < 256) (hI : b 1 ≤ 4) :
    ∀ d i, i + d = 3 * b 1 → ff_F post b (fun xfc xra xfi xfp xhd => (xrc, nI n, xfc, xrn, xra, xfi, xfp, xgn, xac, xlr, xhm, xrp, xrA, xrB, xrC, xby, xhd, xst, xbg, xco, xen, xre, xld, xim, xic, xih, xif, xop, xbp, xbq, xsc, xna, xhe, xlo, xsk)) xfp (ff_im b n d i) →
      wX_checkFormat_25 post (nI (3 * b 1)) (d + 1) (nI i) xrc (nI n) xfc xrn (nI (2 + i)) 0 xfp xgn xac xlr xhm xrp xrA xrB xrC xby xhd xst xbg xco xen xre xld xim xic xih xif xop xbp xbq xsc xna xhe xlo xsk := by
  intro d
  induction d with
  | zero =>
    intro i hi K
    have ei : i = 3 * b 1 := by omega
    refine br_t (nI_le (by omega) (by omega)) ?_
    refine x_read (b := b) (lo := 1) (hi := 4) hn hb hv (by omega) (by omega) (by omega) (K := ff_fn b n (pl_nf b) 0) (fun h1 h2 h3 e1 => ?_) (fun w p hz hw e => ?_)
    · have en : b (2 + i) = pl_nf b := by rw [ei]; rfl
      have e2 : ff_im b n 0 i = ff_fn b n (pl_nf b) 0 := e1
      rw [e2] at K
      have h0 : pl_hd b 0 = 2 + i + 1 := by show 3 + 3 * b 1 = _; omega
      rw [en, ← h0]
      exact ⟨_, x_fn56 hn hb hv (by rw [← en]; exact h3) (pl_nf b) 0 (by omega) (by omega) K xhd fun g hg => absurd hg (by omega)⟩
    · have e2 : ff_im b n 0 i = (w, p) := e
      rw [e2] at K
      exact ⟨1, x_skip56 (fc := 0) (by omega) hz (fun xfc xra xhd => K.2 hw _ _ _) 0 0 rfl xhd⟩
  | succ d ih =>
    intro i hi K
    refine br_f (nI_ge (by omega) (by omega)) ?_
    refine x_read (b := b) (lo := 0) (hi := 7) hn hb hv (by omega) (by omega) (by omega) (K := ff_im b n d (i + 1)) (fun h1 h2 h3 e1 => ?_) (fun w p hz hw e => ?_)
    · have e2 : ff_im b n (d + 1) i = ff_im b n d (i + 1) := e1
      rw [e2] at K
      exact nm_r (nI_1 i) (ih (i + 1) (by omega) K)
    · have e2 : ff_im b n (d + 1) i = (w, p) := e
      rw [e2] at K
      exact nm_r (nI_1 i) (x_skip25 (by omega) hz (fun xfc xra xhd => K.2 hw _ _ _) d (i + 1) (by omega))
theorem x_format {post : SX → Prop} (hn : n ≤ 120) (hb : ∀ i, i < 120 → xby i = nI (b i)) (hv : ∀ i, b i < 256)
    (K : ff_F post b (fun xfc xra xfi xfp xhd => (xrc, nI n, xfc, xrn, xra, xfi, xfp, xgn, xac, xlr, xhm, xrp, xrA, xrB, xrC, xby, xhd, xst, xbg, xco, xen, xre, xld, xim, xic, xih, xif, xop, xbp, xbq, xsc, xna, xhe, xlo, xsk)) xfp (ff_v b n)) : wpX_checkFormat post (xrc, nI n, xfc, xrn, xra, 0, xfp, xgn, xac, xlr, xhm, xrp, xrA, xrB, xrC, xby, xhd, xst, xbg, xco, xen, xre, xld, xim, xic, xih, xif, xop, xbp, xbq, xsc, xna, xhe, xlo, xsk) := by
  unfold wpX_checkFormat
  dsimp only
  refine x_read (a := 0) (b := b) (lo := 80) (hi := 80) hn hb hv (by omega) (by omega) (by omega) (K := ff_s b n 1 0 4 (ff_im b n (3 * b 1) 0)) (fun h1 h2 h3 e1 => ?_) (fun w p hz hw e => ?_)
  · refine x_read (a := 1) (b := b) (lo := 0) (hi := 4) hn hb hv (by omega) (by omega) (by omega) (K := ff_im b n (3 * b 1) 0) (fun h4 h5 h6 e2 => ?_) (fun w p hz hw e => ?_)
    · have E : ff_v b n = ff_im b n (3 * b 1) 0 := e1.trans e2
      rw [E] at K
      exact nm_r (show 3 * nI (b 1) = nI (3 * b 1) from pk_mul 3 _) ⟨_, x_im25 hn hb hv h6 (3 * b 1) 0 (by omega) K⟩
    · have E : ff_v b n = (w, p) := e1.trans e
      rw [E] at K
      exact nm_r (show 3 * (0 : Int32) = nI 0 from by decide) ⟨_, x_skip25 (c := 0) (by omega) hz (fun xfc xra xhd => K.2 hw _ _ _) 0 0 rfl⟩
  · have E : ff_v b n = (w, p) := e
    rw [E] at K
    refine x_readS hz ?_
    exact nm_r (show 3 * (0 : Int32) = nI 0 from by decide) ⟨_, x_skip25 (c := 0) (by omega) hz (fun xfc xra xhd => K.2 hw _ _ _) 0 0 rfl⟩
end A8
