section A6
variable {r n : Nat} {pt M : Nat → Nat} {xrc xbc xfc xrn xra xfi xfp xgn xac xlr : Int32} {xhm : Int64} {xrp xrA xrB xrC xby xhd xst xbg xco xen xre xld xim xic xih xif xop xbp xbq xsc xna xhe xlo xsk : Nat → Int32} {yru ypl ynu yps yfi yac yre : Int32} {yme : Int64} {yrp yrq yrl yby yle ypr ywa ybp ybq ybo ysc yfn yat yhi ylo yen : Nat → Int32}
/-! the policy -/
def po_F (pt : Nat → Nat) (A B C : Nat → Int32) (a b c : Int32) (i : Nat) : Prop := (1 ≤ pt i → A i = a) ∧ (2 ≤ pt i → B i = b) ∧ (3 ≤ pt i → C i = c)
def po_al (q : Nat → Int32) (i : Nat) : Int32 := if (q i) &&& 1 = 1 then 1 else 0
noncomputable def po_f (pt : Nat → Nat) (al : Nat → Int32) (ft : Nat → Prop) : Nat → Nat × Int32
  | 0 => (0, 0)
  | i + 1 => @ite _ ((po_f pt al ft i).1 ≤ pt i + 1 ∧ ft i) (Classical.propDecidable _) (pt i + 1, al i) (po_f pt al ft i)
noncomputable def po_A (pt : Nat → Nat) (q A B C : Nat → Int32) (r : Nat) (a b c : Int32) : Int32 := (po_f pt (po_al q) (po_F pt A B C a b c) r).2
theorem po_al01 (q : Nat → Int32) (i : Nat) : po_al q i = 0 ∨ po_al q i = 1 := by
  unfold po_al; split
  · exact Or.inr rfl
  · exact Or.inl rfl
theorem po_01 (pt : Nat → Nat) (q : Nat → Int32) (ft : Nat → Prop) : ∀ i, (po_f pt (po_al q) ft i).2 = 0 ∨ (po_f pt (po_al q) ft i).2 = 1 := by
  intro i
  induction i with
  | zero => exact Or.inl rfl
  | succ i ih =>
    unfold po_f
    split
    · exact po_al01 q i
    · exact ih
def po_PA (pt : Nat → Nat) (al : Nat → Int32) (S : Nat → Prop) (A : Int32) : Prop :=
  (∃ i, S i ∧ (∀ j, S j → pt j < pt i ∨ (pt j = pt i ∧ j ≤ i)) ∧ A = al i) ∨ ((∀ j, ¬ S j) ∧ A = 0)
theorem po_eq {al : Nat → Int32} {S S' : Nat → Prop} {A : Int32} (e : ∀ j, S j ↔ S' j) (h : po_PA pt al S A) : po_PA pt al S' A := by
  have : S = S' := funext fun j => propext (e j)
  subst this
  exact h
theorem po_un {al : Nat → Int32} {S : Nat → Prop} {A B : Int32} (h : po_PA pt al S A) (h' : po_PA pt al S B) : A = B := by
  rcases h with ⟨i, h1, h2, rfl⟩ | ⟨h1, rfl⟩
  · rcases h' with ⟨j, g1, g2, rfl⟩ | ⟨g1, rfl⟩
    · have := h2 j g1
      have := g2 i h1
      have : i = j := by omega
      rw [this]
    · exact absurd h1 (g1 i)
  · rcases h' with ⟨j, g1, g2, rfl⟩ | ⟨g1, rfl⟩
    · exact absurd g1 (h1 j)
    · rfl
theorem po_fPA (pt : Nat → Nat) (al : Nat → Int32) (ft : Nat → Prop) : ∀ i,
    (∃ m, (m < i ∧ ft m) ∧ (∀ j, (j < i ∧ ft j) → pt j < pt m ∨ (pt j = pt m ∧ j ≤ m)) ∧ po_f pt al ft i = (pt m + 1, al m)) ∨ ((∀ j, ¬ (j < i ∧ ft j)) ∧ po_f pt al ft i = (0, 0)) := by
  intro i
  induction i with
  | zero => exact Or.inr ⟨fun j h => absurd h.1 (by omega), rfl⟩
  | succ i ih =>
    by_cases h : (po_f pt al ft i).1 ≤ pt i + 1 ∧ ft i
    · have e : po_f pt al ft (i + 1) = (pt i + 1, al i) := if_pos h
      refine Or.inl ⟨i, ⟨by omega, h.2⟩, fun j hj => ?_, e⟩
      by_cases ej : j = i
      · subst ej; exact Or.inr ⟨rfl, Nat.le_refl _⟩
      · rcases ih with ⟨m, h1, h2, h3⟩ | ⟨h1, h2⟩
        · have := h2 j ⟨by omega, hj.2⟩
          have h5 := h.1
          rw [h3] at h5
          have : pt m + 1 ≤ pt i + 1 := h5
          omega
        · exact absurd ⟨by omega, hj.2⟩ (h1 j)
    · have e : po_f pt al ft (i + 1) = po_f pt al ft i := if_neg h
      rw [e]
      rcases ih with ⟨m, h1, h2, h3⟩ | ⟨h1, h2⟩
      · refine Or.inl ⟨m, ⟨by omega, h1.2⟩, fun j hj => ?_, h3⟩
        by_cases ej : j = i
        · subst ej
          rw [h3] at h
          have h6 : ¬ (pt m + 1 ≤ pt j + 1) := fun z => h ⟨z, hj.2⟩
          omega
        · exact h2 j ⟨by omega, hj.2⟩
      · refine Or.inr ⟨fun j hj => ?_, h2⟩
        by_cases ej : j = i
        · subst ej
          rw [h2] at h
          exact h ⟨Nat.zero_le _, hj.2⟩
        · exact h1 j ⟨by omega, hj.2⟩
theorem po_fA (pt : Nat → Nat) (al : Nat → Int32) (ft : Nat → Prop) (i : Nat) : po_PA pt al (fun j => j < i ∧ ft j) (po_f pt al ft i).2 := by
  rcases po_fPA pt al ft i with ⟨m, h1, h2, h3⟩ | ⟨h1, h2⟩
  · exact Or.inl ⟨m, h1, h2, by rw [h3]⟩
  · exact Or.inr ⟨h1, by rw [h2]⟩
theorem x_pfit {post : Int32 → Prop} {a b c : Int32} {i : Nat} (hi : i < 12) (hp : pt i ≤ 3) (hs : (xrp i) >>> ((1 : Int32) &&& 31) = nI (pt i))
    (k1 : po_F pt xrA xrB xrC a b c i → post 1) (k0 : ¬ po_F pt xrA xrB xrC a b c i → post 0) : wpX_prefixFits post (xrc, xbc, xfc, xrn, xra, xfi, xfp, xgn, xac, xlr, xhm, xrp, xrA, xrB, xrC, xby, xhd, xst, xbg, xco, xen, xre, xld, xim, xic, xih, xif, xop, xbp, xbq, xsc, xna, xhe, xlo, xsk) (nI i) a b c := by
  unfold wpX_prefixFits
  dsimp only
  have e : (nI i).toNatClampNeg = i := nI_clamp (by omega)
  have v : vp_in (nI i) 12 := vp_in_nI hi (by omega)
  rw [e, hs]
  refine ⟨v, nm_e ?_⟩
  have s3 : (1 ≤ pt i → xrA i = a) → (2 ≤ pt i → xrB i = b) → wX_prefixFits_42 post (nI i) c (nI (pt i)) xrc xbc xfc xrn xra xfi xfp xgn xac xlr xhm xrp xrA xrB xrC xby xhd xst xbg xco xen xre xld xim xic xih xif xop xbp xbq xsc xna xhe xlo xsk := by
    intro g1 g2
    unfold wX_prefixFits_42
    rw [e]
    refine pk_lt (pt i) 3 (fun h => k1 ⟨g1, g2, fun z => absurd z (by omega)⟩) fun h => ⟨v, br_c (fun z => k1 ⟨g1, g2, fun _ => z⟩) fun z => k0 fun G => z (G.2.2 h)⟩
  have s2 : (1 ≤ pt i → xrA i = a) → wX_prefixFits_26 post (nI i) b c (nI (pt i)) xrc xbc xfc xrn xra xfi xfp xgn xac xlr xhm xrp xrA xrB xrC xby xhd xst xbg xco xen xre xld xim xic xih xif xop xbp xbq xsc xna xhe xlo xsk := by
    intro g1
    unfold wX_prefixFits_26
    rw [e]
    refine pk_lt (pt i) 2 (fun h => s3 g1 fun z => absurd z (by omega)) fun h => ⟨v, br_c (fun z => s3 g1 fun _ => z) fun z => k0 fun G => z (G.2.1 h)⟩
  exact pk_lt (pt i) 1 (fun h => s2 fun z => absurd z (by omega)) fun h => ⟨v, br_c (fun z => s2 fun _ => z) fun z => k0 fun G => z (G.1 h)⟩
theorem po_lg {p l : Nat} (hp : p ≤ 3) (hl : l ≤ 4) : nI p < nI l - 1 ↔ p + 1 < l := by
  cases l with
  | zero =>
    have : ¬ nI p < nI 0 - 1 := by
      rw [show nI 0 - 1 = -1 from by decide, Int32.lt_iff_toInt_lt, nI_toInt (by omega), show (-1 : Int32).toInt = -1 from by decide]
      omega
    exact ⟨fun z => absurd z this, fun z => absurd z (by omega)⟩
  | succ m =>
    rw [nI_pred, nI_ltI (by omega) (by omega)]
    omega
theorem po_fl {ft : Nat → Prop} {al : Nat → Int32} {r : Nat} (hp : ∀ i, i < r → pt i ≤ 3) : ∀ i, i ≤ r → (po_f pt al ft i).1 ≤ 4 := by
  intro i
  induction i with
  | zero => intro _; exact Nat.zero_le _
  | succ i ih =>
    intro hi
    unfold po_f
    split
    · have := hp i (by omega)
      show pt i + 1 ≤ 4
      omega
    · exact ih (by omega)
theorem x_permits {post : Int32 → Prop} {a b c : Int32} (hr : r ≤ 12) (hR : ∀ i, i < r → pt i ≤ 3 ∧ (xrp i) >>> ((1 : Int32) &&& 31) = nI (pt i))
    (k : post (po_A pt xrp xrA xrB xrC r a b c)) : wpX_permits post (nI r, xbc, xfc, xrn, xra, xfi, xfp, xgn, xac, xlr, xhm, xrp, xrA, xrB, xrC, xby, xhd, xst, xbg, xco, xen, xre, xld, xim, xic, xih, xif, xop, xbp, xbq, xsc, xna, xhe, xlo, xsk) a b c := by
  have L : ∀ d i, i + d = r → wX_permits_9 post a b c (nI r) xbc xfc xrn xra xfi xfp xgn xac xlr xhm xrp xrA xrB xrC xby xhd xst xbg xco xen xre xld xim xic xih xif xop xbp xbq xsc xna xhe xlo xsk (d + 1) (nI (po_f pt (po_al xrp) (po_F pt xrA xrB xrC a b c) i).1 - 1) (po_f pt (po_al xrp) (po_F pt xrA xrB xrC a b c) i).2 (nI i) := by
    intro d
    induction d with
    | zero =>
      intro i hi
      have : i = r := by omega
      subst this
      exact br_t (nI_le (Nat.le_refl _) (by omega)) ⟨ba_nb (po_01 pt xrp _ _), k⟩
    | succ d ih =>
      intro i hi
      have h := hR i (by omega)
      have hl := po_fl (ft := po_F pt xrA xrB xrC a b c) (al := po_al xrp) (fun i hi => (hR i hi).1) i (by omega)
      have e : (nI i).toNatClampNeg = i := nI_clamp (by omega)
      have v : vp_in (nI i) 12 := vp_in_nI (by omega) (by omega)
      unfold wX_permits_9
      rw [e, h.2]
      have N0 : ¬ ((po_f pt (po_al xrp) (po_F pt xrA xrB xrC a b c) i).1 ≤ pt i + 1 ∧ po_F pt xrA xrB xrC a b c i) → wX_permits_9 post a b c (nI r) xbc xfc xrn xra xfi xfp xgn xac xlr xhm xrp xrA xrB xrC xby xhd xst xbg xco xen xre xld xim xic xih xif xop xbp xbq xsc xna xhe xlo xsk (d + 1) (nI (po_f pt (po_al xrp) (po_F pt xrA xrB xrC a b c) i).1 - 1) (po_f pt (po_al xrp) (po_F pt xrA xrB xrC a b c) i).2 (nI (i + 1)) := by
        intro z
        have := ih (i + 1) (by omega)
        rw [show po_f pt (po_al xrp) (po_F pt xrA xrB xrC a b c) (i + 1) = po_f pt (po_al xrp) (po_F pt xrA xrB xrC a b c) i from if_neg z] at this
        exact this
      refine br_f (nI_ge (by omega) (by omega)) ⟨v, nm_e ?_⟩
      by_cases h1 : pt i + 1 < (po_f pt (po_al xrp) (po_F pt xrA xrB xrC a b c) i).1
      · exact br_t ((po_lg h.1 hl).mpr h1) (nm_r (nI_1 i) (N0 fun z => absurd z.1 (by omega)))
      · refine br_f (fun z => h1 ((po_lg h.1 hl).mp z)) (x_pfit (by omega) h.1 h.2 (fun g => br_f ba_10 ⟨v, ?_⟩) fun g => br_t rfl (nm_r (nI_1 i) (N0 fun z => g z.2)))
        have N1 := ih (i + 1) (by omega)
        rw [show po_f pt (po_al xrp) (po_F pt xrA xrB xrC a b c) (i + 1) = (pt i + 1, po_al xrp i) from if_pos ⟨by omega, g⟩] at N1
        dsimp only at N1
        rw [nI_pred] at N1
        refine br_c (fun z => nm_r (nI_1 i) ?_) fun z => nm_r (nI_1 i) ?_
        · rw [show po_al xrp i = 1 from if_pos z] at N1; exact N1
        · rw [show po_al xrp i = 0 from if_neg z] at N1; exact N1
  exact ⟨_, L r 0 (by omega)⟩
end A6
section A7
variable {r n : Nat} {pt M : Nat → Nat} {xrc xbc xfc xrn xra xfi xfp xgn xac xlr : Int32} {xhm : Int64} {xrp xrA xrB xrC xby xhd xst xbg xco xen xre xld xim xic xih xif xop xbp xbq xsc xna xhe xlo xsk : Nat → Int32} {yru ypl ynu yps yfi yac yre : Int32} {yme : Int64} {yrp yrq yrl yby yle ypr ywa ybp ybq ybo ysc yfn yat yhi ylo yen : Nat → Int32}
/-- what the reference has looked at in round t before rule i -/
def po_S (pt : Nat → Nat) (ft : Nat → Prop) (r t i j : Nat) : Prop := j < r ∧ ft j ∧ (pt j < t ∨ (pt j = t ∧ j < i))
theorem y_al47 {post : Int32 → Prop} {J38 W : Int32 → Int32 → Prop} {a b c A : Int32} {t i : Nat} (hi : i < 12) (ht : t ≤ 3)
    (h0 : yrp i = nI (pt i)) (hp : pt i ≤ 3) (hA : yrq (i * 3) = xrA i) (hB : yrq (i * 3 + 1) = xrB i) (hC : yrq (i * 3 + 2) = xrC i)
    (k1 : pt i = t → po_F pt xrA xrB xrC a b c i → W (yrl i) (nI (i + 1))) (k0 : ¬ (pt i = t ∧ po_F pt xrA xrB xrC a b c i) → W A (nI (i + 1))) :
    (((yrp i) = nI t → (((nI t ≤ 0 → (wY_allows_89 post J38 W a b c A (nI t) (nI i) yru ypl ynu yps yfi yac yre yme yrp yrq yrl yby yle ypr ywa ybp ybq ybo ysc yfn yat yhi ylo yen)) ∧ (¬ nI t ≤ 0 → (vp_in (nI i * 3) 36 ∧ ((((yrq (nI i * 3).toNatClampNeg) = a → (wY_allows_89 post J38 W a b c A (nI t) (nI i) yru ypl ynu yps yfi yac yre yme yrp yrq yrl yby yle ypr ywa ybp ybq ybo ysc yfn yat yhi ylo yen)) ∧ (¬ (yrq (nI i * 3).toNatClampNeg) = a → (∀ x6 : Int32, x6 = nI i + 1 → W A x6))))))))) ∧ (¬ (yrp i) = nI t → (∀ x6 : Int32, x6 = nI i + 1 → W A x6))) := by
  have e : (nI i).toNatClampNeg = i := nI_clamp (by omega)
  have v : vp_in (nI i) 12 := vp_in_nI hi (by omega)
  have m : nI i * 3 = nI (i * 3) := pk_mul i 3
  have m1 : nI (i * 3) + 1 = nI (i * 3 + 1) := nI_1 _
  have m2 : nI (i * 3) + 2 = nI (i * 3 + 2) := nI_add _ 2
  have c0 : (nI (i * 3)).toNatClampNeg = i * 3 := nI_clamp (by omega)
  have c1 : (nI (i * 3 + 1)).toNatClampNeg = i * 3 + 1 := nI_clamp (by omega)
  have c2 : (nI (i * 3 + 2)).toNatClampNeg = i * 3 + 2 := nI_clamp (by omega)
  have v0 : vp_in (nI (i * 3)) 36 := vp_in_nI (by omega) (by omega)
  have v1 : vp_in (nI (i * 3 + 1)) 36 := vp_in_nI (by omega) (by omega)
  have v2 : vp_in (nI (i * 3 + 2)) 36 := vp_in_nI (by omega) (by omega)
  rw [h0, m, c0, hA]
  refine pk_eq (pt i) t (fun et => ?_) (fun et => nm_r (nI_1 i) (k0 fun z => et z.1))
  have s3 : (1 ≤ pt i → xrA i = a) → (2 ≤ pt i → xrB i = b) → wY_allows_110 post J38 W a b c A (nI t) (nI i) yru ypl ynu yps yfi yac yre yme yrp yrq yrl yby yle ypr ywa ybp ybq ybo ysc yfn yat yhi ylo yen := by
    intro g1 g2
    unfold wY_allows_110
    rw [m, m2, c2, hC, e]
    exact pk_le t 2 (fun h => ⟨v, nm_e (nm_r (nI_1 i) (k1 et ⟨g1, g2, fun z => absurd z (by omega)⟩))⟩) fun h => ⟨v2, br_c (fun z => ⟨v, nm_e (nm_r (nI_1 i) (k1 et ⟨g1, g2, fun _ => z⟩))⟩) fun z => nm_r (nI_1 i) (k0 fun G => z (G.2.2.2 (by omega)))⟩
  have s2 : (1 ≤ pt i → xrA i = a) → wY_allows_89 post J38 W a b c A (nI t) (nI i) yru ypl ynu yps yfi yac yre yme yrp yrq yrl yby yle ypr ywa ybp ybq ybo ysc yfn yat yhi ylo yen := by
    intro g1
    unfold wY_allows_89
    rw [m, m1, c1, hB]
    exact pk_le t 1 (fun h => s3 g1 fun z => absurd z (by omega)) fun h => ⟨v1, br_c (fun z => s3 g1 fun _ => z) fun z => nm_r (nI_1 i) (k0 fun G => z (G.2.2.1 (by omega)))⟩
  exact pk_le t 0 (fun h => s2 fun z => absurd z (by omega)) fun h => ⟨v0, br_c (fun z => s2 fun _ => z) fun z => nm_r (nI_1 i) (k0 fun G => z (G.2.1 (by omega)))⟩
theorem y_allows {post : Int32 → Prop} {a b c : Int32} (hR : re_RU r pt xrp xrA xrB xrC yrp yrq yrl) (ha : ru_P a) (hb : ru_P b) (hc : ru_P c)
    (k : post (po_A pt xrp xrA xrB xrC r a b c)) : wpY_allows post (nI r, ypl, ynu, yps, yfi, yac, yre, yme, yrp, yrq, yrl, yby, yle, ypr, ywa, ybp, ybq, ybo, ysc, yfn, yat, yhi, ylo, yen) a b c := by
  obtain ⟨hr, hR⟩ := hR
  refine br_f ha.1 (br_f ha.2 (br_f hb.1 (br_f hb.2 (br_f hc.1 (br_t (Int32.not_lt.mp hc.2) ⟨5, ?_⟩)))))
  have I : ∀ (J38 : Int32 → Int32 → Prop) (t : Nat), t ≤ 3 → (∀ A, po_PA pt (po_al xrp) (po_S pt (po_F pt xrA xrB xrC a b c) r (t + 1) 0) A → J38 A (nI (t + 1))) →
      ∀ d i, i + d = r → ∀ A, po_PA pt (po_al xrp) (po_S pt (po_F pt xrA xrB xrC a b c) r t i) A → wY_allows_47 post J38 a b c (nI t) (nI r) ypl ynu yps yfi yac yre yme yrp yrq yrl yby yle ypr ywa ybp ybq ybo ysc yfn yat yhi ylo yen (d + 1) A (nI i) := by
    intro J38 t ht kJ d
    induction d with
    | zero =>
      intro i hi A hA
      have : i = r := by omega
      subst this
      refine br_t (nI_le (Nat.le_refl _) (by omega)) (nm_r (nI_1 t) (kJ A (po_eq (fun j => ?_) hA)))
      unfold po_S
      exact ⟨fun h => ⟨h.1, h.2.1, by omega⟩, fun h => ⟨h.1, h.2.1, by omega⟩⟩
    | succ d ih =>
      intro i hi A hA
      obtain ⟨h1, h2, h3, h4, h5, h6, h7⟩ := hR i (by omega)
      unfold wY_allows_47
      rw [nI_clamp (show i < 2 ^ 31 by omega)]
      refine br_f (nI_ge (by omega) (by omega)) ⟨vp_in_nI (by omega) (by omega), ?_⟩
      refine y_al47 (W := wY_allows_47 post J38 a b c (nI t) (nI r) ypl ynu yps yfi yac yre yme yrp yrq yrl yby yle ypr ywa ybp ybq ybo ysc yfn yat yhi ylo yen (d + 1)) (by omega) ht h3 h1 h4 h5 h6 (fun g1 g2 => ?_) fun g => ?_
      · refine ih (i + 1) (by omega) _ ?_
        refine Or.inl ⟨i, ⟨by omega, g2, Or.inr ⟨g1, by omega⟩⟩, fun j hj => ?_, h7⟩
        unfold po_S at hj
        omega
      · refine ih (i + 1) (by omega) _ (po_eq (fun j => ?_) hA)
        unfold po_S
        constructor
        · intro h; exact ⟨h.1, h.2.1, by omega⟩
        · intro h
          refine ⟨h.1, h.2.1, ?_⟩
          by_cases ej : j = i
          · subst ej
            by_cases e2 : pt j = t
            · exact absurd ⟨e2, h.2.1⟩ g
            · omega
          · omega
  have O : ∀ e t, t + e = 4 → ∀ A, po_PA pt (po_al xrp) (po_S pt (po_F pt xrA xrB xrC a b c) r t 0) A → wY_allows_38 post a b c (nI r) ypl ynu yps yfi yac yre yme yrp yrq yrl yby yle ypr ywa ybp ybq ybo ysc yfn yat yhi ylo yen (e + 1) A (nI t) := by
    intro e
    induction e with
    | zero =>
      intro t ht A hA
      have : t = 4 := by omega
      subst this
      have e : A = po_A pt xrp xrA xrB xrC r a b c := by
        refine po_un hA (po_eq (fun j => ?_) (po_fA pt (po_al xrp) (po_F pt xrA xrB xrC a b c) r))
        unfold po_S
        constructor
        · intro h
          have := (hR j h.1).1
          exact ⟨h.1, h.2, by omega⟩
        · intro h; exact ⟨h.1, h.2.1⟩
      subst e
      exact br_t (nI_le (a := 4) (b := 4) (by omega) (by omega)) ⟨ba_nb (po_01 pt xrp _ _), k⟩
    | succ e ih =>
      intro t ht A hA
      exact br_f (nI_ge (b := 4) (by omega) (by decide)) ⟨_, I _ t (by omega) (fun A' hA' => ih (t + 1) (by omega) A' hA') r 0 (by omega) A hA⟩
  refine O 4 0 rfl 0 (Or.inr ⟨fun j h => ?_, rfl⟩)
  unfold po_S at h
  omega
theorem y_allows0 {post : Int32 → Prop} {a b c : Int32} (h : ¬ (ru_P a ∧ ru_P b ∧ ru_P c)) (k : post 0) : wpY_allows post (yru, ypl, ynu, yps, yfi, yac, yre, yme, yrp, yrq, yrl, yby, yle, ypr, ywa, ybp, ybq, ybo, ysc, yfn, yat, yhi, ylo, yen) a b c := by
  refine br_c (fun _ => k) fun a1 => br_c (fun _ => k) fun a2 => br_c (fun _ => k) fun b1 => br_c (fun _ => k) fun b2 => br_c (fun _ => k) fun c1 => br_c (fun c2 => ?_) fun _ => k
  exact absurd ⟨⟨a1, a2⟩, ⟨b1, b2⟩, ⟨c1, Int32.not_lt.mpr c2⟩⟩ h
theorem i_vc_allows {k : Nat} {u : SX} {v : SY} (I : i_Rel k u v) (hk : k + 5 ≤ 2560) (v1 : Int32) (v2 : Int32) (v3 : Int32) : wpX_allows (fun r => wpY_allows (fun r' => r' = r ∧ i_Rel (k + 5) u v) v v1 v2 v3) u v1 v2 v3 := by
  have J := I
  obtain ⟨r, n, pt, M, xfc, xrn, xra, xfi, xfp, xgn, xac, xlr, xhm, xrp, xrA, xrB, xrC, xby, xhd, xst, xbg, xco, xen, xre, xld, xim, xic, xih, xif, xop, xbp, xbq, xsc, xna, xhe, xlo, xsk, yps, yfi, yac, yrp, yrq, yrl, yle, ywa, yfn, yat, yhi, ylo, yen, rfl, rfl, h⟩ := I
  unfold wpX_allows
  dsimp only
  refine x_isPart (fun g1 => br_f ba_10 (x_isPart (fun g2 => br_f ba_10 (x_isPart (fun g3 => br_f ba_10 ?_) fun g => br_t rfl ?_)) fun g => br_t rfl ?_)) fun g => br_t rfl ?_
  · refine x_permits h.1.1 (fun i hi => ⟨(h.1.2 i hi).1, (h.1.2 i hi).2.1⟩) ?_
    rcases po_01 pt xrp (po_F pt xrA xrB xrC v1 v2 v3) r with z | z
    · have z' : po_A pt xrp xrA xrB xrC r v1 v2 v3 = 0 := z
      rw [z']
      exact br_t rfl (y_allows h.1 g1 g2 g3 ⟨z', J⟩)
    · have z' : po_A pt xrp xrA xrB xrC r v1 v2 v3 = 1 := z
      rw [z']
      exact br_f ba_10 (y_allows h.1 g1 g2 g3 ⟨z', J⟩)
  · exact y_allows0 (fun z => g z.2.2) ⟨rfl, J⟩
  · exact y_allows0 (fun z => g z.2.1) ⟨rfl, J⟩
  · exact y_allows0 (fun z => g z.1) ⟨rfl, J⟩
end A7
