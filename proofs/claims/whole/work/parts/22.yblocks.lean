section D2
variable {r n : Nat} {pt M b : Nat → Nat} {yru ypl ynu yps yfi yac yre : Int32} {yme : Int64} {yrp yrq yrl yby yle ypr ywa ybp ybq ybo ysc yfn yat yhi ylo yen : Nat → Int32}
/-! the reference's blocks and costs -/
def le_c (b : Nat → Nat) (j i : Nat) : Prop := ((b i = 10 ∨ b i = 11) ∧ pl_tg b i = (j : Int)) ∨ (10 ≤ b i ∧ b i ≤ 13 ∧ i + 2 = j) ∨ (b i = 16 ∧ i + 1 = j)
theorem y_leads {post : Int32 → Prop} {p f j : Nat} (hp : p ≤ 3) (hn : n ≤ 120) (hF : pl_Fmt (re_b M p) n) (hf : f < pl_nf (re_b M p)) (hv : ∀ i, M i < 256) (hC : ∀ i, pl_IS (re_b M p) f i → ¬ pl_bad (re_b M p) f i) (hj : j < 120)
    (k1 : pl_L (re_b M p) f j → post 1) (k0 : ¬ pl_L (re_b M p) f j → post 0) : wpY_leads post (yru, ypl, ynu, yps, yfi, yac, yre, yme, yrp, yrq, yrl, fun i => nI (M i), yle, ypr, ywa, ybp, ybq, ybo, ysc, yfn, yat, yhi, ylo, yen) (nI p) (nI f) (nI (p * 120 + j)) := by
  have he := pl_ef hF hf
  have hh := pl_hf hF hf
  have hs : pl_s (re_b M p) f < pl_e (re_b M p) f := hh
  have h4 := hF.2.2.2.1
  have hi : ∀ i, i < f + 1 → pl_hd (re_b M p) i + 2 < 120 := by
    intro i h
    have := pl_hd_le (re_b M p) i f (by omega)
    omega
  unfold wpY_leads
  dsimp only
  refine y_codeStart hp (by omega) hF.1 (fun i h => hi i (by omega)) ?_
  refine y_codeEnd hp (by omega) hF.1 hi ?_
  refine pk_eq (p * 120 + j) (p * 120 + pl_s (re_b M p) f) (fun e => k1 (Or.inl (by omega))) fun e => ⟨pl_e (re_b M p) f - pl_s (re_b M p) f + 1, ?_⟩
  have L : ∀ d k, pl_e (re_b M p) f ≤ pl_sc (re_b M p) (pl_s (re_b M p) f) k + d → pl_sc (re_b M p) (pl_s (re_b M p) f) k ≤ pl_e (re_b M p) f → (∀ m, m < k → ¬ le_c (re_b M p) j (pl_sc (re_b M p) (pl_s (re_b M p) f) m)) →
      wY_leads_28 post (nI (p * 120 + j)) (nI (p * 120 + pl_e (re_b M p) f)) yru ypl ynu yps yfi yac yre yme yrp yrq yrl (fun i => nI (M i)) yle ypr ywa ybp ybq ybo ysc yfn yat yhi ylo yen (d + 1) (nI (p * 120 + pl_sc (re_b M p) (pl_s (re_b M p) f) k)) := by
    have fin : ∀ k, pl_e (re_b M p) f ≤ pl_sc (re_b M p) (pl_s (re_b M p) f) k → (∀ m, m < k → ¬ le_c (re_b M p) j (pl_sc (re_b M p) (pl_s (re_b M p) f) m)) → post 0 := by
      intro k h1 h3
      refine k0 fun hL => ?_
      rcases hL with rfl | ⟨i, hI, h⟩
      · omega
      · obtain ⟨m, hm, rfl⟩ := y_st (k := k) hI (by have := hI.1; omega)
        exact h3 m hm h
    intro d
    induction d with
    | zero =>
      intro k h1 h2 h3
      exact br_t (nI_le (by omega) (by omega)) (fin k h1 h3)
    | succ d ih =>
      intro k h1 h2 h3
      refine pk_le (p * 120 + pl_e (re_b M p) f) (p * 120 + pl_sc (re_b M p) (pl_s (re_b M p) f) k) (fun h => fin k (by omega) h3) fun h => ?_
      have is : pl_IS (re_b M p) f (pl_sc (re_b M p) (pl_s (re_b M p) f) k) := ⟨by omega, k, rfl⟩
      have bad := hC _ is
      have nx := pl_nx bad is.1
      have wdd := fun q => pl_wide bad q
      have N := ih (k + 1)
      have hsc : pl_sc (re_b M p) (pl_s (re_b M p) f) (k + 1) = pl_sc (re_b M p) (pl_s (re_b M p) f) k + pl_sz (re_b M p (pl_sc (re_b M p) (pl_s (re_b M p) f) k)) := rfl
      have vb := y_hvb hv p (pl_sc (re_b M p) (pl_s (re_b M p) f) k)
      have hz := pl_sz_pos (re_b M p (pl_sc (re_b M p) (pl_s (re_b M p) f) k))
      have N2 := fun (z : ¬ le_c (re_b M p) j (pl_sc (re_b M p) (pl_s (re_b M p) f) k)) => N (by omega) (by omega) fun m hm => (show ¬ le_c (re_b M p) j (pl_sc (re_b M p) (pl_s (re_b M p) f) m) by
        by_cases em : m = k
        · subst em; exact z
        · exact h3 m (by omega))
      rw [hsc] at N2
      have Y1 : le_c (re_b M p) j (pl_sc (re_b M p) (pl_s (re_b M p) f) k) → post 1 := fun q => k1 (Or.inr ⟨_, is, q⟩)
      generalize pl_sc (re_b M p) (pl_s (re_b M p) f) k = i at *
      have V : vp_in (nI (p * 120 + i)) 480 := vp_in_nI (by omega) (by omega)
      have s109 : ¬ le_c (re_b M p) j i → wY_leads_109 post (wY_leads_28 post (nI (p * 120 + j)) (nI (p * 120 + pl_e (re_b M p) f)) yru ypl ynu yps yfi yac yre yme yrp yrq yrl (fun i => nI (M i)) yle ypr ywa ybp ybq ybo ysc yfn yat yhi ylo yen (d + 1)) (nI (p * 120 + j)) (nI (p * 120 + pl_e (re_b M p) f)) (nI (p * 120 + i)) yru ypl ynu yps yfi yac yre yme yrp yrq yrl (fun i => nI (M i)) yle ypr ywa ybp ybq ybo ysc yfn yat yhi ylo yen := by
        intro z
        have N3 := N2 z
        refine ⟨V, ?_⟩
        dsimp only
        rw [y_rd hp (by omega)]
        refine y_wide vb (fun hw => br_f ba_10 (nm_r (show _ = nI (p * 120 + (i + 2)) from nI_add _ 2) ?_)) fun hw => br_t rfl (nm_r (show _ = nI (p * 120 + (i + 1)) from nI_1 _) ?_)
        · rw [hw] at N3; exact N3
        · rw [hw] at N3; exact N3
      have s92 : ¬ ((re_b M p i = 10 ∨ re_b M p i = 11) ∧ pl_tg (re_b M p) i = (j : Int)) → ¬ (10 ≤ re_b M p i ∧ re_b M p i ≤ 13 ∧ i + 2 = j) → wY_leads_92 post (wY_leads_28 post (nI (p * 120 + j)) (nI (p * 120 + pl_e (re_b M p) f)) yru ypl ynu yps yfi yac yre yme yrp yrq yrl (fun i => nI (M i)) yle ypr ywa ybp ybq ybo ysc yfn yat yhi ylo yen (d + 1)) (nI (p * 120 + j)) (nI (p * 120 + pl_e (re_b M p) f)) (nI (p * 120 + i)) (nI (re_b M p i)) yru ypl ynu yps yfi yac yre yme yrp yrq yrl (fun i => nI (M i)) yle ypr ywa ybp ybq ybo ysc yfn yat yhi ylo yen := by
        intro q1 q2
        refine pk_eq (re_b M p i) 16 (fun c => ?_) fun c => s109 fun z => ?_
        · rw [show nI (p * 120 + i) + 1 = nI (p * 120 + (i + 1)) from nI_1 _]
          refine pk_eq (p * 120 + (i + 1)) (p * 120 + j) (fun e => Y1 (Or.inr (Or.inr ⟨c, by omega⟩))) fun e => s109 fun z => ?_
          rcases z with z | z | z
          · exact q1 z
          · exact q2 z
          · omega
        · rcases z with z | z | z
          · exact q1 z
          · exact q2 z
          · exact c z.1
      have s70 : ¬ ((re_b M p i = 10 ∨ re_b M p i = 11) ∧ pl_tg (re_b M p) i = (j : Int)) → wY_leads_70 post (wY_leads_28 post (nI (p * 120 + j)) (nI (p * 120 + pl_e (re_b M p) f)) yru ypl ynu yps yfi yac yre yme yrp yrq yrl (fun i => nI (M i)) yle ypr ywa ybp ybq ybo ysc yfn yat yhi ylo yen (d + 1)) (nI (p * 120 + j)) (nI (p * 120 + pl_e (re_b M p) f)) (nI (p * 120 + i)) (nI (re_b M p i)) yru ypl ynu yps yfi yac yre yme yrp yrq yrl (fun i => nI (M i)) yle ypr ywa ybp ybq ybo ysc yfn yat yhi ylo yen := by
        intro q1
        refine pk_lt (re_b M p i) 10 (fun c => s92 q1 (by omega)) fun c => pk_lt 13 (re_b M p i) (fun c' => s92 q1 (by omega)) fun c' => ?_
        rw [show nI (p * 120 + i) + 2 = nI (p * 120 + (i + 2)) from nI_add _ 2]
        exact pk_eq (p * 120 + (i + 2)) (p * 120 + j) (fun e => Y1 (Or.inr (Or.inl ⟨c, c', by omega⟩))) fun e => s92 q1 (by omega)
      have s58 : (re_b M p i = 10 ∨ re_b M p i = 11) → wY_leads_58 post (wY_leads_28 post (nI (p * 120 + j)) (nI (p * 120 + pl_e (re_b M p) f)) yru ypl ynu yps yfi yac yre yme yrp yrq yrl (fun i => nI (M i)) yle ypr ywa ybp ybq ybo ysc yfn yat yhi ylo yen (d + 1)) (nI (p * 120 + j)) (nI (p * 120 + pl_e (re_b M p) f)) (nI (p * 120 + i)) (nI (re_b M p i)) yru ypl ynu yps yfi yac yre yme yrp yrq yrl (fun i => nI (M i)) yle ypr ywa ybp ybq ybo ysc yfn yat yhi ylo yen := by
        intro c
        have h1 := wdd (pl_sz2.mpr (by omega))
        refine y_target hp (by omega) hv fun T hT => ?_
        refine br_c (fun e => Y1 (Or.inl ⟨c, ?_⟩)) fun e => s70 fun z => e (tg_n (by rw [hT, z.2]; omega) (by omega))
        rw [e, nI_toInt (by omega)] at hT
        omega
      refine ⟨V, nm_r (e' := nI (re_b M p i)) (y_rd hp (by omega)) ?_⟩
      exact pk_eq (re_b M p i) 10 (fun c => s58 (Or.inl c)) fun c => pk_eq (re_b M p i) 11 (fun c' => s58 (Or.inr c')) fun c' => s70 fun z => absurd z.1 (by omega)
  exact L (pl_e (re_b M p) f - pl_s (re_b M p) f) 0 (by show _ ≤ pl_s (re_b M p) f + _; omega) (by show pl_s (re_b M p) f ≤ _; omega) fun m hm => absurd hm (by omega)
theorem y_cost {post : Int32 → Prop} {p f a : Nat} (hp : p ≤ 3) (hn : n ≤ 120) (hF : pl_Fmt (re_b M p) n) (hf : f < pl_nf (re_b M p)) (hv : ∀ i, M i < 256) (hC : ∀ i, pl_IS (re_b M p) f i → ¬ pl_bad (re_b M p) f i) (hI : pl_IS (re_b M p) f a)
    (k : post (nI (pl_wt (re_b M p a) + pl_T (re_b M p) f (a + pl_sz (re_b M p a))))) : wpY_cost post (yru, ypl, ynu, yps, yfi, yac, yre, yme, yrp, yrq, yrl, fun i => nI (M i), yle, ypr, ywa, ybp, ybq, ybo, ysc, yfn, yat, yhi, ylo, yen) (nI p) (nI f) (nI (p * 120 + a)) := by
  have he := pl_ef hF hf
  have hh := pl_hf hF hf
  have h4 := hF.2.2.2.1
  have hi : ∀ i, i < f + 1 → pl_hd (re_b M p) i + 2 < 120 := by
    intro i h
    have := pl_hd_le (re_b M p) i f (by omega)
    omega
  have la := hI.1
  unfold wpY_cost
  dsimp only
  refine y_codeEnd hp (by omega) hF.1 hi ⟨pl_e (re_b M p) f - a + 2, ?_⟩
  -- one instruction taken in
  have S : ∀ (J : Int32 → Int32 → Prop) i acc, pl_IS (re_b M p) f i → J (nI (acc + pl_wt (re_b M p i))) (nI (p * 120 + (i + pl_sz (re_b M p i)))) →
      wY_cost_41 post J (nI p) (nI f) (nI (p * 120 + a)) (nI (p * 120 + pl_e (re_b M p) f)) (nI acc) (nI (p * 120 + i)) yru ypl ynu yps yfi yac yre yme yrp yrq yrl (fun i => nI (M i)) yle ypr ywa ybp ybq ybo ysc yfn yat yhi ylo yen := by
    intro J i acc is q
    have li := is.1
    have vb := y_hvb hv p i
    have V : vp_in (nI (p * 120 + i)) 480 := vp_in_nI (by omega) (by omega)
    have s60 : ∀ z0, z0 = nI (pl_wt (re_b M p i)) → wY_cost_60 post J (nI p) (nI f) (nI (p * 120 + a)) (nI (p * 120 + pl_e (re_b M p) f)) (nI (p * 120 + i)) z0 (nI acc) yru ypl ynu yps yfi yac yre yme yrp yrq yrl (fun i => nI (M i)) yle ypr ywa ybp ybq ybo ysc yfn yat yhi ylo yen := by
      intro z0 ez
      subst ez
      refine nm_r (nI_add _ _) ⟨V, ?_⟩
      dsimp only
      rw [y_rd hp (by omega)]
      refine y_wide vb (fun hw => br_f ba_10 (nm_r (show _ = nI (p * 120 + (i + 2)) from nI_add _ 2) ?_)) fun hw => br_t rfl (nm_r (show _ = nI (p * 120 + (i + 1)) from nI_1 _) ?_)
      · rw [hw] at q; exact q
      · rw [hw] at q; exact q
    refine ⟨V, ?_⟩
    dsimp only
    rw [y_rd hp (by omega)]
    exact pk_eq (re_b M p i) 13 (fun c => s60 5 (by unfold pl_wt; rw [if_pos c]; rfl)) fun c => s60 1 (by unfold pl_wt; rw [if_neg c]; rfl)
  have L : ∀ d i acc, pl_e (re_b M p) f ≤ i + d → a < i → (pl_IS (re_b M p) f i ∨ i = pl_e (re_b M p) f) → post (nI (acc + pl_T (re_b M p) f i)) →
      wY_cost_14 post (nI p) (nI f) (nI (p * 120 + a)) (nI (p * 120 + pl_e (re_b M p) f)) yru ypl ynu yps yfi yac yre yme yrp yrq yrl (fun i => nI (M i)) yle ypr ywa ybp ybq ybo ysc yfn yat yhi ylo yen (d + 1) (nI acc) (nI (p * 120 + i)) := by
    intro d
    induction d with
    | zero =>
      intro i acc h1 h2 h3 q
      have h5 : i = pl_e (re_b M p) f := by
        rcases h3 with z | z
        · have := z.1; omega
        · exact z
      rw [h5, pl_T_end (Nat.le_refl _)] at q
      rw [h5]
      exact br_t (nI_le (by omega) (by omega)) q
    | succ d ih =>
      intro i acc h1 h2 h3 q
      rcases h3 with is | rfl
      · have li := is.1
        have nx := pl_nx (hC i is) li
        have hz := pl_sz_pos (re_b M p i)
        refine br_f (nI_ge (by omega) (by omega)) (br_f (nI_ge (by omega) (by omega)) ?_)
        refine y_leads hp hn hF hf hv hC (by omega) (fun hL => br_f ba_10 ?_) fun hL => br_t rfl (S _ i acc is (ih (i + pl_sz (re_b M p i)) (acc + pl_wt (re_b M p i)) (by omega) (by omega) ?_ ?_))
        · rw [pl_T_L hL] at q; exact q
        · by_cases e : i + pl_sz (re_b M p i) = pl_e (re_b M p) f
          · exact Or.inr e
          · exact Or.inl (pl_ISn is (by omega))
        · rw [pl_T_n li hL] at q
          rw [Nat.add_assoc]
          exact q
      · rw [pl_T_end (Nat.le_refl _)] at q
        exact br_t (nI_le (by omega) (by omega)) q
  have nx := pl_nx (hC a hI) la
  have hz := pl_sz_pos (re_b M p a)
  refine br_f (nI_ge (by omega) (by omega)) (br_t (nI_le (by omega) (by omega)) (S _ a 0 hI ?_))
  refine L (pl_e (re_b M p) f - a) (a + pl_sz (re_b M p a)) (0 + pl_wt (re_b M p a)) (by omega) (by omega) ?_ ?_
  · by_cases e : a + pl_sz (re_b M p a) = pl_e (re_b M p) f
    · exact Or.inr e
    · exact Or.inl (pl_ISn hI (by omega))
  · rw [Nat.zero_add]; exact k
end D2
