section B3
variable {r n : Nat} {pt M b : Nat → Nat} {xrc xbc xfc xrn xra xfi xfp xgn xac xlr : Int32} {xhm : Int64} {xrp xrA xrB xrC xby xhd xst xbg xco xen xre xld xim xic xih xif xop xbp xbq xsc xna xhe xlo xsk : Nat → Int32} {yru ypl ynu yps yfi yac yre : Int32} {yme : Int64} {yrp yrq yrl yby yle ypr ywa ybp ybq ybo ysc yfn yat yhi ylo yen : Nat → Int32}
/-! where a jump goes -/
theorem tg_sg : ∀ v : Fin 256, ((nI v.val).toInt8.toInt32).toInt = pl_sg v.val := by decide +kernel
theorem tg_sgb {v : Nat} (h : v < 256) : -128 ≤ pl_sg v ∧ pl_sg v < 128 := by
  unfold pl_sg
  split <;> omega
theorem tg_T {i v : Nat} (h : i < 1000) (hv : v < 256) : (nI i + 2 + (nI v).toInt8.toInt32).toInt = (i : Int) + 2 + pl_sg v := by
  have h1 := tg_sg ⟨v, hv⟩
  have h2 := tg_sgb hv
  rw [show nI i + 2 = nI (i + 2) from nI_add i 2, Int32.toInt_add, nI_toInt (by omega), show ((nI v).toInt8.toInt32).toInt = pl_sg v from h1]
  rw [Int.bmod_eq_of_le (by omega) (by omega)]
  omega
theorem tg_n {T : Int32} {j : Nat} (h : T.toInt = (j : Int)) (hj : j < 2 ^ 31) : T = nI j := by
  apply Int32.toInt_inj.mp
  rw [h, nI_toInt hj]
theorem tg_lt {T : Int32} {j : Nat} (hj : j < 2 ^ 31) : T < nI j ↔ T.toInt < (j : Int) := by
  rw [Int32.lt_iff_toInt_lt, nI_toInt hj]
theorem tg_le {T : Int32} {j : Nat} (hj : j < 2 ^ 31) : nI j ≤ T ↔ (j : Int) ≤ T.toInt := by
  rw [Int32.le_iff_toInt_le, nI_toInt hj]
theorem x_targetB {post : Int32 → Prop} {i : Nat} (hi : i + 1 < 120) (hb : ∀ i, i < 120 → xby i = nI (b i)) (hv : ∀ i, b i < 256) (k : ∀ T : Int32, T.toInt = pl_tg b i → post T) : wpX_jumpTarget__bytes post (xrc, xbc, xfc, xrn, xra, xfi, xfp, xgn, xac, xlr, xhm, xrp, xrA, xrB, xrC, xby, xhd, xst, xbg, xco, xen, xre, xld, xim, xic, xih, xif, xop, xbp, xbq, xsc, xna, xhe, xlo, xsk) (nI i) := by
  unfold wpX_jumpTarget__bytes
  dsimp only
  rw [show nI i + 1 = nI (i + 1) from nI_1 i, nI_clamp (by omega), hb _ hi]
  exact ⟨vp_in_nI hi (by omega), k _ (tg_T (by omega) (hv _))⟩
theorem y_target {post : Int32 → Prop} {p i : Nat} (hp : p ≤ 3) (hi : i + 1 < 120) (hv : ∀ i, M i < 256) (k : ∀ T : Int32, T.toInt = (p * 120 : Nat) + pl_tg (re_b M p) i → post T) : wpY_target post (yru, ypl, ynu, yps, yfi, yac, yre, yme, yrp, yrq, yrl, fun i => nI (M i), yle, ypr, ywa, ybp, ybq, ybo, ysc, yfn, yat, yhi, ylo, yen) (nI (p * 120 + i)) := by
  unfold wpY_target
  dsimp only
  have e1 : nI (p * 120 + i) + 1 = nI (p * 120 + (i + 1)) := nI_1 _
  have e2 : re_b M p (i + 1) = M (p * 120 + (i + 1)) := re_bi hi
  rw [e1, nI_clamp (by omega)]
  refine ⟨vp_in_nI (by omega) (by omega), k _ ?_⟩
  rw [tg_T (by omega) (hv _)]
  unfold pl_tg
  rw [e2]
  omega
theorem x_isJump {post : Int32 → Prop} {c : Nat} (hc : c < 256) (k1 : (c = 10 ∨ c = 11) → post 1) (k0 : ¬ (c = 10 ∨ c = 11) → post 0) : wpX_isJump post (xrc, xbc, xfc, xrn, xra, xfi, xfp, xgn, xac, xlr, xhm, xrp, xrA, xrB, xrC, xby, xhd, xst, xbg, xco, xen, xre, xld, xim, xic, xih, xif, xop, xbp, xbq, xsc, xna, xhe, xlo, xsk) (nI c) :=
  pk_eq c 10 (fun h => k1 (Or.inl h)) fun h => pk_eq c 11 (fun h2 => k1 (Or.inr h2)) fun h2 => k0 (by omega)
/-- the flags once all functions are scanned -/
theorem st_f {b : Nat → Nat} {f a : Nat} {st : Nat → Int32} (hS : pl_ST b (pl_nf b) 0 st) (hf : f < pl_nf b) (h1 : pl_s b f ≤ a) (h2 : a < pl_e b f) (h3 : a < 120) : ¬ st a = 0 ↔ pl_IS b f a := by
  rw [hS a h3]
  constructor
  · rintro (⟨g, hg, h⟩ | ⟨_, h⟩)
    · have := pl_apart h1 h2 (pl_ISge h) h.1
      subst this
      exact h
    · omega
  · intro h; exact Or.inl ⟨f, hf, h⟩
def pl_FJ (b : Nat → Nat) (f i : Nat) : Prop := pl_IS b f i ∧ ¬ pl_jok b f i ∧ ∀ j, j < i → pl_IS b f j → pl_jok b f j
def pl_FJA (b : Nat → Nat) (i : Nat) : Prop := ∃ f, f < pl_nf b ∧ pl_FJ b f i ∧ ∀ g, g < f → ∀ j, pl_IS b g j → pl_jok b g j
theorem pl_wide {b : Nat → Nat} {f i : Nat} (h : ¬ pl_bad b f i) (h2 : pl_sz (b i) = 2) : i + 1 < pl_e b f := by
  unfold pl_bad at h
  omega
theorem pl_nx {b : Nat → Nat} {f i : Nat} (h : ¬ pl_bad b f i) (hi : i < pl_e b f) : i + pl_sz (b i) ≤ pl_e b f := by
  have := pl_sz_pos (b i)
  by_cases e : pl_sz (b i) = 2
  · have := pl_wide h e; omega
  · omega
theorem x_cj25 {post : SX → Prop} {J2 : Int32 → Int32 → Int32 → Int32 → Int32 → Int32 → Int32 → Int32 → Int32 → Int32 → Int32 → Int64 → (Nat → Int32) → (Nat → Int32) → (Nat → Int32) → (Nat → Int32) → (Nat → Int32) → (Nat → Int32) → (Nat → Int32) → (Nat → Int32) → (Nat → Int32) → (Nat → Int32) → (Nat → Int32) → (Nat → Int32) → (Nat → Int32) → (Nat → Int32) → (Nat → Int32) → (Nat → Int32) → (Nat → Int32) → (Nat → Int32) → (Nat → Int32) → (Nat → Int32) → (Nat → Int32) → (Nat → Int32) → (Nat → Int32) → (Nat → Int32) → Prop} {f : Nat} (hn : n ≤ 120) (hF : pl_Fmt b n) (hf : f < pl_nf b) (hb : ∀ i, i < 120 → xby i = nI (b i)) (hv : ∀ i, b i < 256) (hS : pl_ST b (pl_nf b) 0 xst) (hC : ∀ i, pl_IS b f i → ¬ pl_bad b f i)
    (kbad : ∀ i, pl_FJ b f i → J2 (nI (f + 1)) xrc xbc xfc xrn xra (nI 5) (nI i) xgn xac xlr xhm xrp xrA xrB xrC xby xhd xst xbg xco xen xre xld xim xic xih xif xop xbp xbq xsc xna xhe xlo xsk)
    (kok : (∀ i, pl_IS b f i → pl_jok b f i) → J2 (nI (f + 1)) xrc xbc xfc xrn xra 0 xfp xgn xac xlr xhm xrp xrA xrB xrC xby xhd xst xbg xco xen xre xld xim xic xih xif xop xbp xbq xsc xna xhe xlo xsk) :
    ∀ d a, a + d = pl_e b f → pl_s b f ≤ a → (∀ j, pl_IS b f j → j < a → pl_jok b f j) →
      wX_checkJumps_25 post J2 (nI f) (nI (pl_s b f)) (nI (pl_e b f)) (d + 1) (nI a) xrc xbc xfc xrn xra 0 xfp xgn xac xlr xhm xrp xrA xrB xrC xby xhd xst xbg xco xen xre xld xim xic xih xif xop xbp xbq xsc xna xhe xlo xsk := by
  have he := pl_ef hF hf
  have hh := pl_hf hF hf
  have h4 := hF.2.2.2.1
  intro d
  induction d with
  | zero =>
    intro a ha hs hj
    exact br_t (nI_le (by omega) (by omega)) (nm_r (nI_1 f) (kok fun i hi => hj i hi (by have := hi.1; omega)))
  | succ d ih =>
    intro a ha hs hj
    have B : pl_FJ b f a → wX_checkJumps_96 post J2 (wX_checkJumps_25 post J2 (nI f) (nI (pl_s b f)) (nI (pl_e b f)) (d + 1)) (nI f) (nI (pl_s b f)) (nI (pl_e b f)) (nI a) xrc xbc xfc xrn xra 0 xfp xgn xac xlr xhm xrp xrA xrB xrC xby xhd xst xbg xco xen xre xld xim xic xih xif xop xbp xbq xsc xna xhe xlo xsk := by
      intro z
      refine nm_r (nI_1 a) ?_
      cases d with
      | zero => exact br_t (nI_le (by omega) (by omega)) (nm_r (nI_1 f) (kbad a z))
      | succ d => exact br_f (nI_ge (by omega) (by omega)) (br_f (by decide) (nm_r (nI_1 f) (kbad a z)))
    have G : (pl_IS b f a → pl_jok b f a) → wX_checkJumps_25 post J2 (nI f) (nI (pl_s b f)) (nI (pl_e b f)) (d + 1) (nI (a + 1)) xrc xbc xfc xrn xra 0 xfp xgn xac xlr xhm xrp xrA xrB xrC xby xhd xst xbg xco xen xre xld xim xic xih xif xop xbp xbq xsc xna xhe xlo xsk := by
      intro z
      refine ih (a + 1) (by omega) (by omega) fun j h1 h2 => ?_
      by_cases e : j = a
      · subst e; exact z h1
      · exact hj j h1 (by omega)
    refine br_f (nI_ge (by omega) (by omega)) (br_t rfl ⟨vp_in_nI (by omega) (by omega), ?_⟩)
    rw [nI_clamp (by omega)]
    have sf := st_f hS hf hs (by omega) (by omega)
    refine br_c (fun z => nm_r (nI_1 a) (G fun h => absurd z (sf.mpr h))) fun z => ⟨vp_in_nI (by omega) (by omega), ?_⟩
    have is := sf.mp z
    rw [hb a (by omega)]
    refine x_isJump (hv a) (fun c => br_f ba_10 ?_) fun c => br_t rfl (nm_r (nI_1 a) (G fun _ c' => absurd c' c))
    have hw : a + 1 < pl_e b f := pl_wide (hC a is) (pl_sz2.mpr (by omega))
    refine x_targetB (b := b) (by omega) hb hv fun T hT => ?_
    have nj : ∀ j : Nat, pl_tg b a = (j : Int) → ¬ pl_IS b f j → pl_FJ b f a := fun j e nI' => ⟨is, fun J => by
      obtain ⟨j', h1, h2, h3⟩ := J c
      have : j = j' := by omega
      subst this
      exact nI' h3, fun j h1 h2 => hj j h2 h1⟩
    have nb : (pl_tg b a < (pl_s b f : Int) ∨ (pl_e b f : Int) ≤ pl_tg b a) → pl_FJ b f a := fun e => ⟨is, fun J => by
      obtain ⟨j', h1, h2, h3⟩ := J c
      have := h3.1
      omega, fun j h1 h2 => hj j h2 h1⟩
    refine br_c (fun h => B (nb (Or.inl (by rw [tg_lt (by omega)] at h; omega)))) fun h => br_c (fun h' => B (nb (Or.inr (by rw [tg_le (by omega)] at h'; omega)))) fun h' => ?_
    rw [tg_lt (by omega)] at h
    rw [tg_le (by omega)] at h'
    obtain ⟨j, ej⟩ : ∃ j : Nat, pl_tg b a = (j : Int) := ⟨(pl_tg b a).toNat, by omega⟩
    have eT := tg_n (hT.trans ej) (by omega)
    subst eT
    have sj := st_f hS hf (a := j) (by omega) (by omega) (by omega)
    refine ⟨vp_in_nI (by omega) (by omega), ?_⟩
    rw [nI_clamp (by omega)]
    exact br_c (fun z' => B (nj j ej fun q => sj.mpr q z')) fun z' => nm_r (nI_1 a) (G fun _ _ => ⟨j, ej, by omega, sj.mp z'⟩)
theorem x_jumps {post : SX → Prop} (hn : n ≤ 120) (hF : pl_Fmt b n) (h0 : ∀ f, f < pl_nf b → xhd f = nI (pl_hd b f)) (hb : ∀ i, i < 120 → xby i = nI (b i)) (hv : ∀ i, b i < 256) (hS : pl_ST b (pl_nf b) 0 xst)
    (hC : ∀ f, f < pl_nf b → ∀ i, pl_IS b f i → ¬ pl_bad b f i)
    (kbad : ∀ i, pl_FJA b i → post (xrc, xbc, nI (pl_nf b), xrn, xra, nI 5, nI i, xgn, xac, xlr, xhm, xrp, xrA, xrB, xrC, xby, xhd, xst, xbg, xco, xen, xre, xld, xim, xic, xih, xif, xop, xbp, xbq, xsc, xna, xhe, xlo, xsk))
    (kok : (∀ f, f < pl_nf b → ∀ i, pl_IS b f i → pl_jok b f i) → post (xrc, xbc, nI (pl_nf b), xrn, xra, 0, xfp, xgn, xac, xlr, xhm, xrp, xrA, xrB, xrC, xby, xhd, xst, xbg, xco, xen, xre, xld, xim, xic, xih, xif, xop, xbp, xbq, xsc, xna, xhe, xlo, xsk)) :
    wpX_checkJumps post (xrc, xbc, nI (pl_nf b), xrn, xra, 0, xfp, xgn, xac, xlr, xhm, xrp, xrA, xrB, xrC, xby, xhd, xst, xbg, xco, xen, xre, xld, xim, xic, xih, xif, xop, xbp, xbq, xsc, xna, xhe, xlo, xsk) := by
  have h4 := hF.2.2.2.1
  have S : ∀ (xfi xfp : Int32), ¬ xfi = 0 → post (xrc, xbc, nI (pl_nf b), xrn, xra, xfi, xfp, xgn, xac, xlr, xhm, xrp, xrA, xrB, xrC, xby, xhd, xst, xbg, xco, xen, xre, xld, xim, xic, xih, xif, xop, xbp, xbq, xsc, xna, xhe, xlo, xsk) → ∀ d f, f + d = pl_nf b → wX_checkJumps_2 post (d + 1) (nI f) xrc xbc (nI (pl_nf b)) xrn xra xfi xfp xgn xac xlr xhm xrp xrA xrB xrC xby xhd xst xbg xco xen xre xld xim xic xih xif xop xbp xbq xsc xna xhe xlo xsk := by
    intro xfi xfp hz K d
    induction d with
    | zero => intro f hf; exact br_t (nI_le (by omega) (by omega)) K
    | succ d ih =>
      intro f hf
      have he := pl_ef hF (f := f) (by omega)
      have hh := pl_hf hF (f := f) (by omega)
      have hs : pl_s b f < pl_e b f := hh
      refine br_f (nI_ge (by omega) (by omega)) ?_
      refine x_codeFirst (b := b) (by omega) (h0 f (by omega)) ?_
      refine x_codeEnd (b := b) (by omega) (h0 f (by omega)) (by omega) hb ?_
      exact ⟨1, br_f (nI_ge (by omega) (by omega)) (br_f hz (nm_r (nI_1 f) (ih (f + 1) (by omega))))⟩
  have O : ∀ d f, f + d = pl_nf b → (∀ g, g < f → ∀ j, pl_IS b g j → pl_jok b g j) → wX_checkJumps_2 post (d + 1) (nI f) xrc xbc (nI (pl_nf b)) xrn xra 0 xfp xgn xac xlr xhm xrp xrA xrB xrC xby xhd xst xbg xco xen xre xld xim xic xih xif xop xbp xbq xsc xna xhe xlo xsk := by
    intro d
    induction d with
    | zero =>
      intro f hf hg
      have : f = pl_nf b := by omega
      subst this
      exact br_t (nI_le (Nat.le_refl _) (by omega)) (kok hg)
    | succ d ih =>
      intro f hf hg
      have he := pl_ef hF (f := f) (by omega)
      have hh := pl_hf hF (f := f) (by omega)
      have hs : pl_s b f < pl_e b f := hh
      refine br_f (nI_ge (by omega) (by omega)) ?_
      refine x_codeFirst (b := b) (by omega) (h0 f (by omega)) ?_
      refine x_codeEnd (b := b) (by omega) (h0 f (by omega)) (by omega) hb ?_
      refine ⟨pl_e b f - pl_s b f + 1, x_cj25 (b := b) hn hF (by omega) hb hv hS (hC f (by omega)) (fun i hi => ?_) (fun hok => ?_) (pl_e b f - pl_s b f) (pl_s b f) (by omega) (Nat.le_refl _) fun j hj hl => absurd (pl_ISge hj) (by omega)⟩
      · exact S (nI 5) (nI i) (by decide) (kbad i ⟨f, by omega, hi, hg⟩) d (f + 1) (by omega)
      · refine ih (f + 1) (by omega) (fun g hg' => ?_)
        by_cases e : g = f
        · subst e; exact hok
        · exact hg g (by omega)
  exact ⟨_, O (pl_nf b) 0 (by omega) fun g hg => absurd hg (by omega)⟩
end B3
section B4
variable {r n : Nat} {pt M : Nat → Nat} {yru ypl ynu yps yfi yac yre : Int32} {yme : Int64} {yrp yrq yrl yby yle ypr ywa ybp ybq ybo ysc yfn yat yhi ylo yen : Nat → Int32}
theorem y_hvb (hv : ∀ i, M i < 256) (p : Nat) : ∀ i, re_b M p i < 256 := by
  intro i
  unfold re_b
  split
  · exact hv _
  · omega
theorem y_rd {p i : Nat} (hp : p ≤ 3) (hi : i < 120) : nI (M (nI (p * 120 + i)).toNatClampNeg) = nI (re_b M p i) := by
  rw [nI_clamp (by omega), re_bi hi]
theorem y_begins {post : Int32 → Prop} {p f : Nat} {T : Int32} (hp : p ≤ 3) (hn : n ≤ 120) (hF : pl_Fmt (re_b M p) n) (hf : f < pl_nf (re_b M p)) (hv : ∀ i, M i < 256) (hC : ∀ i, pl_IS (re_b M p) f i → ¬ pl_bad (re_b M p) f i)
    (k1 : ∀ j, T = nI (p * 120 + j) → pl_IS (re_b M p) f j → post 1) (k0 : (∀ j, T = nI (p * 120 + j) → ¬ pl_IS (re_b M p) f j) → post 0) : wpY_begins post (yru, ypl, ynu, yps, yfi, yac, yre, yme, yrp, yrq, yrl, fun i => nI (M i), yle, ypr, ywa, ybp, ybq, ybo, ysc, yfn, yat, yhi, ylo, yen) (nI p) (nI f) T := by
  have he := pl_ef hF hf
  have hh := pl_hf hF hf
  have hs : pl_s (re_b M p) f < pl_e (re_b M p) f := hh
  have h4 := hF.2.2.2.1
  have hi : ∀ i, i < f + 1 → pl_hd (re_b M p) i + 2 < 120 := by
    intro i h
    have := pl_hd_le (re_b M p) i f (by omega)
    omega
  unfold wpY_begins
  dsimp only
  refine y_codeEnd hp (by omega) hF.1 hi ?_
  refine y_codeStart hp (by omega) hF.1 (fun i h => hi i (by omega)) ⟨pl_e (re_b M p) f - pl_s (re_b M p) f + 1, ?_⟩
  have L : ∀ d k, pl_e (re_b M p) f ≤ pl_sc (re_b M p) (pl_s (re_b M p) f) k + d → pl_sc (re_b M p) (pl_s (re_b M p) f) k ≤ pl_e (re_b M p) f → (∀ m, m < k → ¬ T = nI (p * 120 + pl_sc (re_b M p) (pl_s (re_b M p) f) m)) →
      wY_begins_16 post T (nI (p * 120 + pl_e (re_b M p) f)) yru ypl ynu yps yfi yac yre yme yrp yrq yrl (fun i => nI (M i)) yle ypr ywa ybp ybq ybo ysc yfn yat yhi ylo yen (d + 1) (nI (p * 120 + pl_sc (re_b M p) (pl_s (re_b M p) f) k)) := by
    intro d
    have fin : ∀ k, pl_e (re_b M p) f ≤ pl_sc (re_b M p) (pl_s (re_b M p) f) k → (∀ m, m < k → ¬ T = nI (p * 120 + pl_sc (re_b M p) (pl_s (re_b M p) f) m)) → post 0 := by
      intro k h1 h3
      refine k0 fun j e hj => ?_
      obtain ⟨m, hm, rfl⟩ := y_st (k := k) hj (by have := hj.1; omega)
      exact h3 m hm e
    induction d with
    | zero =>
      intro k h1 h2 h3
      exact br_t (nI_le (by omega) (by omega)) (fin k h1 h3)
    | succ d ih =>
      intro k h1 h2 h3
      refine pk_le (p * 120 + pl_e (re_b M p) f) (p * 120 + pl_sc (re_b M p) (pl_s (re_b M p) f) k) (fun h => fin k (by omega) h3) fun h => ?_
      have is : pl_IS (re_b M p) f (pl_sc (re_b M p) (pl_s (re_b M p) f) k) := ⟨by omega, k, rfl⟩
      have nx := pl_nx (hC _ is) is.1
      have N := ih (k + 1)
      have hsc : pl_sc (re_b M p) (pl_s (re_b M p) f) (k + 1) = pl_sc (re_b M p) (pl_s (re_b M p) f) k + pl_sz (re_b M p (pl_sc (re_b M p) (pl_s (re_b M p) f) k)) := rfl
      have vb := y_hvb hv p (pl_sc (re_b M p) (pl_s (re_b M p) f) k)
      have hz := pl_sz_pos (re_b M p (pl_sc (re_b M p) (pl_s (re_b M p) f) k))
      refine br_c (fun e => k1 _ e.symm is) fun e => ⟨vp_in_nI (by omega) (by omega), ?_⟩
      have N2 := N (by omega) (by omega) fun m hm => by
        by_cases em : m = k
        · subst em; exact fun z => e z.symm
        · exact h3 m (by omega)
      rw [hsc] at N2
      dsimp only
      rw [y_rd hp (by omega)]
      refine y_wide vb (fun hw => br_f ba_10 (nm_r (show _ = nI (p * 120 + (pl_sc (re_b M p) (pl_s (re_b M p) f) k + 2)) from nI_add _ 2) ?_)) fun hw => br_t rfl (nm_r (show _ = nI (p * 120 + (pl_sc (re_b M p) (pl_s (re_b M p) f) k + 1)) from nI_1 _) ?_)
      · rw [hw] at N2; exact N2
      · rw [hw] at N2; exact N2
  exact L (pl_e (re_b M p) f - pl_s (re_b M p) f) 0 (by show _ ≤ pl_s (re_b M p) f + _; omega) (by show pl_s (re_b M p) f ≤ _; omega) fun m hm => absurd hm (by omega)
theorem y_jumps {post : Int32 → SY → Prop} {f : Nat} (hn : n ≤ 120) (hF : pl_Fmt (re_b M 3) n) (hf : f < pl_nf (re_b M 3)) (hv : ∀ i, M i < 256) (hC : ∀ i, pl_IS (re_b M 3) f i → ¬ pl_bad (re_b M 3) f i)
    (kbad : ∀ i, pl_FJ (re_b M 3) f i → post 0 (yru, nI i, ynu, yps, nI 5, yac, yre, yme, yrp, yrq, yrl, fun i => nI (M i), yle, ypr, ywa, ybp, ybq, ybo, ysc, yfn, yat, yhi, ylo, yen))
    (kok : (∀ i, pl_IS (re_b M 3) f i → pl_jok (re_b M 3) f i) → post 1 (yru, ypl, ynu, yps, yfi, yac, yre, yme, yrp, yrq, yrl, fun i => nI (M i), yle, ypr, ywa, ybp, ybq, ybo, ysc, yfn, yat, yhi, ylo, yen)) : wpY_jumps post (yru, ypl, ynu, yps, yfi, yac, yre, yme, yrp, yrq, yrl, fun i => nI (M i), yle, ypr, ywa, ybp, ybq, ybo, ysc, yfn, yat, yhi, ylo, yen) (nI f) := by
  have he := pl_ef hF hf
  have hh := pl_hf hF hf
  have hs : pl_s (re_b M 3) f < pl_e (re_b M 3) f := hh
  have h4 := hF.2.2.2.1
  have hi : ∀ i, i < f + 1 → pl_hd (re_b M 3) i + 2 < 120 := by
    intro i h
    have := pl_hd_le (re_b M 3) i f (by omega)
    omega
  unfold wpY_jumps
  dsimp only
  refine y_codeEnd (p := 3) (by omega) (by omega) hF.1 hi ?_
  refine y_codeStart (p := 3) (by omega) (by omega) hF.1 (fun i h => hi i (by omega)) ⟨pl_e (re_b M 3) f - pl_s (re_b M 3) f + 1, ?_⟩
  have L : ∀ d k, pl_e (re_b M 3) f ≤ pl_sc (re_b M 3) (pl_s (re_b M 3) f) k + d → pl_sc (re_b M 3) (pl_s (re_b M 3) f) k ≤ pl_e (re_b M 3) f → (∀ m, m < k → pl_jok (re_b M 3) f (pl_sc (re_b M 3) (pl_s (re_b M 3) f) m)) →
      wY_jumps_14 post (nI f) (nI (3 * 120 + pl_e (re_b M 3) f)) yru ypl ynu yps yfi yac yre yme yrp yrq yrl (fun i => nI (M i)) yle ypr ywa ybp ybq ybo ysc yfn yat yhi ylo yen (d + 1) (nI (3 * 120 + pl_sc (re_b M 3) (pl_s (re_b M 3) f) k)) := by
    have fin : ∀ k, pl_e (re_b M 3) f ≤ pl_sc (re_b M 3) (pl_s (re_b M 3) f) k → (∀ m, m < k → pl_jok (re_b M 3) f (pl_sc (re_b M 3) (pl_s (re_b M 3) f) m)) → post 1 (yru, ypl, ynu, yps, yfi, yac, yre, yme, yrp, yrq, yrl, fun i => nI (M i), yle, ypr, ywa, ybp, ybq, ybo, ysc, yfn, yat, yhi, ylo, yen) := by
      intro k h1 h3
      refine kok fun j hj => ?_
      obtain ⟨m, hm, rfl⟩ := y_st (k := k) hj (by have := hj.1; omega)
      exact h3 m hm
    intro d
    induction d with
    | zero =>
      intro k h1 h2 h3
      exact br_t (nI_le (by omega) (by omega)) (fin k h1 h3)
    | succ d ih =>
      intro k h1 h2 h3
      refine pk_le (3 * 120 + pl_e (re_b M 3) f) (3 * 120 + pl_sc (re_b M 3) (pl_s (re_b M 3) f) k) (fun h => fin k (by omega) h3) fun h => ?_
      have is : pl_IS (re_b M 3) f (pl_sc (re_b M 3) (pl_s (re_b M 3) f) k) := ⟨by omega, k, rfl⟩
      have nx := pl_nx (hC _ is) is.1
      have N := ih (k + 1)
      have hsc : pl_sc (re_b M 3) (pl_s (re_b M 3) f) (k + 1) = pl_sc (re_b M 3) (pl_s (re_b M 3) f) k + pl_sz (re_b M 3 (pl_sc (re_b M 3) (pl_s (re_b M 3) f) k)) := rfl
      have vb := y_hvb hv 3 (pl_sc (re_b M 3) (pl_s (re_b M 3) f) k)
      have hz := pl_sz_pos (re_b M 3 (pl_sc (re_b M 3) (pl_s (re_b M 3) f) k))
      have hw := fun z => pl_wide (hC _ is) z
      have N2 := fun (z : pl_jok (re_b M 3) f (pl_sc (re_b M 3) (pl_s (re_b M 3) f) k)) => N (by omega) (by omega) fun m hm => (show pl_jok (re_b M 3) f (pl_sc (re_b M 3) (pl_s (re_b M 3) f) m) by
        by_cases em : m = k
        · subst em; exact z
        · exact h3 m (by omega))
      rw [hsc] at N2
      have FJ : ¬ pl_jok (re_b M 3) f (pl_sc (re_b M 3) (pl_s (re_b M 3) f) k) → pl_FJ (re_b M 3) f (pl_sc (re_b M 3) (pl_s (re_b M 3) f) k) := fun z => ⟨is, z, fun j hj hjs => by
        obtain ⟨m, hm, rfl⟩ := y_st (k := k) hjs hj
        exact h3 m hm⟩
      generalize ei : pl_sc (re_b M 3) (pl_s (re_b M 3) f) k = i at *
      have V : vp_in (nI (3 * 120 + i)) 480 := vp_in_nI (by omega) (by omega)
      have s73 : pl_jok (re_b M 3) f i → wY_jumps_73 post (wY_jumps_14 post (nI f) (nI (3 * 120 + pl_e (re_b M 3) f)) yru ypl ynu yps yfi yac yre yme yrp yrq yrl (fun i => nI (M i)) yle ypr ywa ybp ybq ybo ysc yfn yat yhi ylo yen (d + 1)) (nI f) (nI (3 * 120 + pl_e (re_b M 3) f)) (nI (3 * 120 + i)) yru ypl ynu yps yfi yac yre yme yrp yrq yrl (fun i => nI (M i)) yle ypr ywa ybp ybq ybo ysc yfn yat yhi ylo yen := by
        intro z
        have N3 := N2 z
        refine ⟨V, ?_⟩
        dsimp only
        rw [y_rd (p := 3) (by omega) (by omega)]
        refine y_wide vb (fun hw => br_f ba_10 (nm_r (show _ = nI (3 * 120 + (i + 2)) from nI_add _ 2) ?_)) fun hw => br_t rfl (nm_r (show _ = nI (3 * 120 + (i + 1)) from nI_1 _) ?_)
        · rw [hw] at N3; exact N3
        · rw [hw] at N3; exact N3
      have s44 : (re_b M 3 i = 10 ∨ re_b M 3 i = 11) → wY_jumps_44 post (wY_jumps_14 post (nI f) (nI (3 * 120 + pl_e (re_b M 3) f)) yru ypl ynu yps yfi yac yre yme yrp yrq yrl (fun i => nI (M i)) yle ypr ywa ybp ybq ybo ysc yfn yat yhi ylo yen (d + 1)) (nI f) (nI (3 * 120 + pl_e (re_b M 3) f)) (nI (3 * 120 + i)) yru ypl ynu yps yfi yac yre yme yrp yrq yrl (fun i => nI (M i)) yle ypr ywa ybp ybq ybo ysc yfn yat yhi ylo yen := by
        intro c
        have h1 := hw (pl_sz2.mpr (by omega))
        refine y_target (p := 3) (by omega) (by omega) hv fun T hT => ?_
        have sgb := tg_sgb (y_hvb hv 3 (i + 1))
        have tgd : pl_tg (re_b M 3) i = (i : Int) + 2 + pl_sg (re_b M 3 (i + 1)) := rfl
        refine y_begins (p := 3) (by omega) hn hF hf hv hC (fun j ej hj => br_f ba_10 (s73 fun _ => ⟨j, ?_, pl_ISge hj, hj⟩)) fun hj => br_t rfl ?_
        · have := hj.1
          rw [ej, nI_toInt (by omega)] at hT
          omega
        · refine ⟨ba_nb0, ?_⟩
          rw [show nI (3 * 120 + i) - 360 = nI i from y_sub]
          refine kbad i (FJ fun J => ?_)
          obtain ⟨j, h5, h6, h7⟩ := J c
          have := h7.1
          exact hj j (tg_n (by rw [hT, h5]; omega) (by omega)) h7
      refine ⟨V, ?_⟩
      dsimp only
      rw [y_rd (p := 3) (by omega) (by omega)]
      exact pk_eq (re_b M 3 i) 10 (fun c => s44 (Or.inl c)) fun c => ⟨V, pk_eq (re_b M 3 i) 11 (fun c' => s44 (Or.inr c')) fun c' => s73 fun z => absurd z (by omega)⟩
  exact L (pl_e (re_b M 3) f - pl_s (re_b M 3) f) 0 (by show _ ≤ pl_s (re_b M 3) f + _; omega) (by show pl_s (re_b M 3) f ≤ _; omega) fun m hm => absurd hm (by omega)
end B4
