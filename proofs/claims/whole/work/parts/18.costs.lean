section C6
variable {r n : Nat} {pt M b : Nat → Nat} {xrc xbc xfc xrn xra xfi xfp xgn xac xlr : Int32} {xhm : Int64} {xrp xrA xrB xrC xby xhd xst xbg xco xen xre xld xim xic xih xif xop xbp xbq xsc xna xhe xlo xsk : Nat → Int32} {yru ypl ynu yps yfi yac yre : Int32} {yme : Int64} {yrp yrq yrl yby yle ypr ywa ybp ybq ybo ysc yfn yat yhi ylo yen : Nat → Int32}
/-! what a block costs -/
def sc_w (st : Nat → Int32) (b : Nat → Nat) (j : Nat) : Nat := if st j = 0 then 0 else pl_wt (b j)
def sc_t (st g : Nat → Int32) (b : Nat → Nat) : Nat → Nat → Nat
  | 0, _ => 0
  | d + 1, m => if g m = 0 then sc_w st b m + sc_t st g b d (m + 1) else 0
def sc_T (st g : Nat → Int32) (b : Nat → Nat) (n m : Nat) : Nat := sc_t st g b (n - m) m
theorem sc_T0 {st g : Nat → Int32} {m : Nat} (hm : m < n) (h : g m = 0) : sc_T st g b n m = sc_w st b m + sc_T st g b n (m + 1) := by
  unfold sc_T
  rw [show n - m = (n - (m + 1)) + 1 by omega]
  show (if g m = 0 then _ else _) = _
  rw [if_pos h]
theorem sc_T1 {st g : Nat → Int32} {m : Nat} (h : ¬ g m = 0) : sc_T st g b n m = 0 := by
  unfold sc_T
  cases e : n - m with
  | zero => rfl
  | succ d =>
    show (if g m = 0 then _ else _) = _
    rw [if_neg h]
theorem sc_Tn {st g : Nat → Int32} {m : Nat} (h : n ≤ m) : sc_T st g b n m = 0 := by
  unfold sc_T
  rw [show n - m = 0 by omega]
  rfl
/-- the costs as they stand before byte m, the block from g on not yet ended -/
def sc_I (st bg : Nat → Int32) (b : Nat → Nat) (n m g : Nat) (co : Nat → Int32) : Prop :=
  (∀ j, j < m → bg j = 0 → co j = 0) ∧ (∀ j, j < m → ¬ bg j = 0 → j ≠ g → co j = nI (sc_w st b j + sc_T st bg b n (j + 1))) ∧
  ((g < m ∧ ¬ bg g = 0 ∧ ∃ v, co g = nI v ∧ v + sc_T st bg b n m = sc_w st b g + sc_T st bg b n (g + 1)) ∨ (g = 0 ∧ ∀ j, j < m → bg j = 0))
theorem sc_s0 {st bg co : Nat → Int32} {m g : Nat} (hm : m < n) (hI : sc_I st bg b n m g co) (h1 : bg m = 0) (h2 : st m = 0) : sc_I st bg b n (m + 1) g (upd co m 0) := by
  have hw : sc_w st b m = 0 := if_pos h2
  have hT := sc_T0 (b := b) (st := st) hm h1
  obtain ⟨a1, a2, a3⟩ := hI
  refine ⟨fun j hj hz => ?_, fun j hj hz hg => ?_, ?_⟩
  · by_cases e : j = m
    · subst e; exact pk_us
    · rw [pk_un e]; exact a1 j (by omega) hz
  · by_cases e : j = m
    · subst e; exact absurd h1 hz
    · rw [pk_un e]; exact a2 j (by omega) hz hg
  · rcases a3 with ⟨q1, q2, v, q3, q4⟩ | ⟨q1, q2⟩
    · exact Or.inl ⟨by omega, q2, v, by rw [pk_un (by omega)]; exact q3, by omega⟩
    · refine Or.inr ⟨q1, fun j hj => ?_⟩
      by_cases e : j = m
      · subst e; exact h1
      · exact q2 j (by omega)
theorem sc_s1 {st bg co : Nat → Int32} {m g : Nat} (hm : m < n) (hI : sc_I st bg b n m g co) (h1 : bg m = 0) (h2 : ¬ st m = 0) (hx : ¬ ∀ j, j < m → bg j = 0) :
    sc_I st bg b n (m + 1) g (upd (upd co m 0) g ((upd co m 0) g + nI (pl_wt (b m)))) ∧ g < m := by
  have hw : sc_w st b m = pl_wt (b m) := if_neg h2
  have hT := sc_T0 (b := b) (st := st) hm h1
  obtain ⟨a1, a2, a3⟩ := hI
  rcases a3 with ⟨q1, q2, v, q3, q4⟩ | ⟨q1, q2⟩
  · refine ⟨⟨fun j hj hz => ?_, fun j hj hz hg => ?_, Or.inl ⟨by omega, q2, v + pl_wt (b m), ?_, by omega⟩⟩, q1⟩
    · have e1 : j ≠ g := by intro e; subst e; exact q2 hz
      rw [pk_un e1]
      by_cases e : j = m
      · subst e; exact pk_us
      · rw [pk_un e]; exact a1 j (by omega) hz
    · rw [pk_un hg]
      by_cases e : j = m
      · subst e; exact absurd h1 hz
      · rw [pk_un e]; exact a2 j (by omega) hz hg
    · rw [pk_us, pk_un (show g ≠ m by omega), q3, nI_add]
  · exact absurd q2 hx
theorem sc_close {st bg co : Nat → Int32} {m g : Nat} (hI : sc_I st bg b n m g co) (hT : sc_T st bg b n m = 0) : ∀ j, j < m → ¬ bg j = 0 → co j = nI (sc_w st b j + sc_T st bg b n (j + 1)) := by
  intro j hj hz
  obtain ⟨a1, a2, a3⟩ := hI
  by_cases e : j = g
  · subst e
    rcases a3 with ⟨q1, q2, v, q3, q4⟩ | ⟨q1, q2⟩
    · rw [q3]; exact congrArg nI (by omega)
    · exact absurd (q2 j hj) hz
  · exact a2 j hj hz e
theorem sc_s2 {st bg co : Nat → Int32} {m g : Nat} (hI : sc_I st bg b n m g co) (h1 : ¬ bg m = 0) : sc_I st bg b n (m + 1) m (upd (upd co m 0) m ((upd co m 0) m + nI (sc_w st b m))) := by
  have cl := sc_close hI (sc_T1 h1)
  obtain ⟨a1, a2, a3⟩ := hI
  refine ⟨fun j hj hz => ?_, fun j hj hz hg => ?_, Or.inl ⟨by omega, h1, sc_w st b m, ?_, rfl⟩⟩
  · have e : j ≠ m := by intro e; subst e; exact h1 hz
    rw [pk_un e, pk_un e]; exact a1 j (by omega) hz
  · rw [pk_un hg, pk_un hg]; exact cl j (by omega) hz
  · rw [pk_us, pk_us]; show 0 + nI _ = _; exact Int32.zero_add _
theorem sc_s2' {st bg co : Nat → Int32} {m g : Nat} (hI : sc_I st bg b n m g co) (h1 : ¬ bg m = 0) (h2 : st m = 0) : sc_I st bg b n (m + 1) m (upd co m 0) := by
  have h := sc_s2 hI h1
  have e : upd (upd co m 0) m ((upd co m 0) m + nI (sc_w st b m)) = upd co m 0 := by
    funext j
    by_cases e : j = m
    · subst e
      rw [pk_us, pk_us, show sc_w st b j = 0 from if_pos h2]
      decide
    · rw [pk_un e]
  rw [e] at h
  exact h
theorem x_sums {post : SX → Prop} (hn : n ≤ 120) (hb : ∀ i, i < 120 → xby i = nI (b i)) (hv : ∀ i, b i < 256) (hx : ∀ m, m < n → ¬ xst m = 0 → xbg m = 0 → ¬ ∀ j, j < m → xbg j = 0)
    (k : ∀ xco : Nat → Int32, (∀ j, j < n → xbg j = 0 → xco j = 0) → (∀ j, j < n → ¬ xbg j = 0 → xco j = nI (sc_w xst b j + sc_T xst xbg b n (j + 1))) → post (xrc, nI n, xfc, xrn, xra, xfi, xfp, xgn, xac, xlr, xhm, xrp, xrA, xrB, xrC, xby, xhd, xst, xbg, xco, xen, xre, xld, xim, xic, xih, xif, xop, xbp, xbq, xsc, xna, xhe, xlo, xsk)) : wpX_sumCosts post (xrc, nI n, xfc, xrn, xra, xfi, xfp, xgn, xac, xlr, xhm, xrp, xrA, xrB, xrC, xby, xhd, xst, xbg, xco, xen, xre, xld, xim, xic, xih, xif, xop, xbp, xbq, xsc, xna, xhe, xlo, xsk) := by
  have L : ∀ d m g, ∀ xco : Nat → Int32, m + d = n → g < 120 → sc_I xst xbg b n m g xco → wX_sumCosts_4 post xrc (nI n) xfc xrn xra xfi xfp xgn xac xlr xhm (d + 1) (nI g) (nI m) xrp xrA xrB xrC xby xhd xst xbg xco xen xre xld xim xic xih xif xop xbp xbq xsc xna xhe xlo xsk := by
    intro d
    induction d with
    | zero =>
      intro m g xco hm hg hI
      have : m = n := by omega
      subst this
      exact br_t (nI_le (Nat.le_refl _) (by omega)) (k xco hI.1 (sc_close hI (sc_Tn (Nat.le_refl _))))
    | succ d ih =>
      intro m g xco hm hg hI
      have V : vp_in (nI m) 120 := vp_in_nI (by omega) (by omega)
      have vm := hv m
      refine br_f (nI_ge (by omega) (by omega)) ⟨V, nm_r (show _ = upd xco m 0 by rw [nI_clamp (by omega)]) ⟨V, ?_⟩⟩
      -- the addition, at any block g'
      have A : ∀ g', g' < 120 → (xst m = 0 → sc_I xst xbg b n (m + 1) g' (upd xco m 0)) → (¬ xst m = 0 → sc_I xst xbg b n (m + 1) g' (upd (upd xco m 0) g' ((upd xco m 0) g' + nI (pl_wt (b m))))) →
          wX_sumCosts_30 post (wX_sumCosts_4 post xrc (nI n) xfc xrn xra xfi xfp xgn xac xlr xhm (d + 1)) (nI g') (nI m) xrc (nI n) xfc xrn xra xfi xfp xgn xac xlr xhm xrp xrA xrB xrC xby xhd xst xbg (upd xco m 0) xen xre xld xim xic xih xif xop xbp xbq xsc xna xhe xlo xsk := by
        intro g' hg' I0 I1
        unfold wX_sumCosts_30
        rw [nI_clamp (by omega), nI_clamp (by omega), hb m (by omega)]
        refine ⟨V, br_c (fun z => nm_r (nI_1 m) (ih (m + 1) g' _ (by omega) hg' (I0 z))) fun z => ⟨vp_in_nI hg' (by omega), V, pk_eq (b m) 13 (fun c => ⟨vp_in_nI hg' (by omega), nm_e (nm_r (nI_1 m) (ih (m + 1) g' _ (by omega) hg' ?_))⟩) fun c => ⟨vp_in_nI hg' (by omega), nm_e (nm_r (nI_1 m) (ih (m + 1) g' _ (by omega) hg' ?_))⟩⟩⟩
        · have := I1 z
          rw [show pl_wt (b m) = 5 from if_pos c] at this
          exact this
        · have := I1 z
          rw [show pl_wt (b m) = 1 from if_neg c] at this
          exact this
      rw [nI_clamp (by omega)]
      refine br_c (fun z => A g hg (fun z' => sc_s0 (by omega) hI z z') fun z' => (sc_s1 (by omega) hI z z' (hx m (by omega) z' z)).1) fun z => A m (by omega) (fun z' => sc_s2' hI z z') fun z' => ?_
      have := sc_s2 hI z
      rw [show sc_w xst b m = pl_wt (b m) from if_neg z'] at this
      exact this
  exact ⟨_, L n 0 0 xco (by omega) (by omega) ⟨fun j hj => absurd hj (by omega), fun j hj => absurd hj (by omega), Or.inr ⟨rfl, fun j hj => absurd hj (by omega)⟩⟩⟩
/-! .. and what it is in the document's words -/
theorem pl_L_IS {f j : Nat} (hF : pl_Fmt b n) (hf : f < pl_nf b) (hJ : ∀ i, pl_IS b f i → pl_jok b f i) (hL : pl_L b f j) (hj : j < pl_e b f) : pl_IS b f j := by
  rcases hL with rfl | ⟨i, hi, h | h | h⟩
  · exact pl_IS0 (hF.2.2.2.2.1 f hf).2.2.1
  · obtain ⟨t, e, _, it⟩ := hJ i hi h.1
    have : j = t := by have := h.2; omega
    subst this
    exact it
  · obtain ⟨c1, c2, rfl⟩ := h
    have e : pl_sz (b i) = 2 := pl_sz2.mpr (by omega)
    have := pl_ISn hi (by omega)
    rw [e] at this
    exact this
  · obtain ⟨c1, rfl⟩ := h
    have e : pl_sz (b i) = 1 := pl_sz1.mpr (by omega)
    have := pl_ISn hi (by omega)
    rw [e] at this
    exact this
theorem pl_hdr {f g j : Nat} (h1 : pl_hd b g ≤ j) (h2 : j < pl_hd b g + 3) (h3 : pl_s b f ≤ j) (h4 : j < pl_e b f) : False := by
  have e1 : pl_s b f = pl_hd b f + 3 := rfl
  have e2 : pl_e b f = pl_hd b (f + 1) := rfl
  by_cases h : f < g
  · have := pl_hd_le b (f + 1) g (by omega)
    omega
  · have := pl_hd_le b g f (by omega)
    omega
theorem pl_mid {f i : Nat} (hi : pl_IS b f i) (h2 : pl_sz (b i) = 2) : ¬ pl_IS b f (i + 1) := by
  intro h
  obtain ⟨_, k, rfl⟩ := hi
  obtain ⟨m, hm, e⟩ := y_st (k := k + 1) h (by show _ < pl_sc b (pl_s b f) k + pl_sz _; omega)
  by_cases em : m = k
  · subst em; omega
  · have := pl_sc_lt b (pl_s b f) m k (by omega)
    omega
theorem sc_C {f i : Nat} {st bg : Nat → Int32} (hn : n ≤ 120) (hF : pl_Fmt b n) (hT : pl_ST b (pl_nf b) 0 st) (hG : mb_G b bg) (hC : vd_B b) (hJ : vd_J b) (hf : f < pl_nf b) :
    ∀ d i, pl_e b f - i ≤ d → pl_IS b f i → sc_T st bg b n (i + 1) = pl_T b f (i + pl_sz (b i)) := by
  have he := pl_ef hF hf
  have nst : ∀ j, j < 120 → (∀ g, g < pl_nf b → ¬ pl_IS b g j) → st j = 0 := by
    intro j hj h
    by_cases z : st j = 0
    · exact z
    · rcases (hT j hj).mp z with ⟨g, hg, hI⟩ | ⟨_, h'⟩
      · exact absurd hI (h g hg)
      · omega
  have nbg : ∀ j, j < 120 → (∀ g, g < pl_nf b → ¬ pl_IS b g j) → bg j = 0 := by
    intro j hj h
    by_cases z : bg j = 0
    · exact z
    · obtain ⟨g, hg, h1, h2, h3⟩ := (hG j hj).mp z
      exact absurd (pl_L_IS hF hg (hJ g hg) h3 h2) (h g hg)
  have zero : ∀ j, j < n → (∀ g, g < pl_nf b → ¬ pl_IS b g j) → sc_T st bg b n j = sc_T st bg b n (j + 1) := by
    intro j hj h
    rw [sc_T0 hj (nbg j (by omega) h), show sc_w st b j = 0 from if_pos (nst j (by omega) h), Nat.zero_add]
  have tend : sc_T st bg b n (pl_e b f) = 0 := by
    by_cases e : f + 1 = pl_nf b
    · refine sc_Tn ?_
      have := hF.2.2.2.2.2
      rw [pl_e_hd, e]
      omega
    · have h1 := pl_ef hF (f := f + 1) (by omega)
      have h2 := pl_hf hF (f := f + 1) (by omega)
      have e1 : pl_e b f = pl_hd b (f + 1) := rfl
      have hd : ∀ j, pl_hd b (f + 1) ≤ j → j < pl_hd b (f + 1) + 3 → ∀ g, g < pl_nf b → ¬ pl_IS b g j := fun j q1 q2 g _ hI => pl_hdr q1 q2 (pl_ISge hI) hI.1
      rw [e1, zero _ (by omega) (hd _ (by omega) (by omega)), zero _ (by omega) (hd _ (by omega) (by omega)), zero _ (by omega) (hd _ (by omega) (by omega))]
      refine sc_T1 ((hG _ (by omega)).mpr ⟨f + 1, by omega, Nat.le_refl _, h2, Or.inl rfl⟩)
  intro d
  induction d with
  | zero =>
    intro i hd hI
    have := hI.1
    omega
  | succ d ih =>
    intro i hd hI
    have la := hI.1
    have sa := pl_ISge hI
    have nx := pl_nx (hC f hf i hI) la
    have szp := pl_sz_pos (b i)
    have e1 : sc_T st bg b n (i + 1) = sc_T st bg b n (i + pl_sz (b i)) := by
      by_cases e : pl_sz (b i) = 2
      · rw [e]
        refine zero (i + 1) (by omega) fun g hg h => ?_
        have := pl_apart (f := f) (g := g) (i := i + 1) (by omega) (by omega) (pl_ISge h) h.1
        subst this
        exact pl_mid hI e h
      · rw [show pl_sz (b i) = 1 by omega]
    rw [e1]
    by_cases e : i + pl_sz (b i) = pl_e b f
    · rw [e, tend, pl_T_end (Nat.le_refl _)]
    · have hN := pl_ISn hI (by omega)
      generalize ej : i + pl_sz (b i) = j at *
      have lj := hN.1
      have sj := pl_ISge hN
      by_cases hL : pl_L b f j
      · rw [sc_T1 ((hG j (by omega)).mpr ⟨f, hf, sj, lj, hL⟩), pl_T_L hL]
      · have bz : bg j = 0 := by
          by_cases z : bg j = 0
          · exact z
          · obtain ⟨g, hg, h1, h2, h3⟩ := (hG j (by omega)).mp z
            have := pl_apart sj lj h1 h2
            subst this
            exact absurd h3 hL
        rw [sc_T0 (by omega) bz, show sc_w st b j = pl_wt (b j) from if_neg ((st_f hT hf sj lj (by omega)).mpr hN), ih j (by omega) hN, pl_T_n lj hL]
end C6
