section B2
variable {r n : Nat} {pt M b : Nat → Nat} {yru ypl ynu yps yfi yac yre : Int32} {yme : Int64} {yrp yrq yrl yby yle ypr ywa ybp ybq ybo ysc yfn yat yhi ylo yen : Nat → Int32}
/-! the reference's BADCODE check -/
theorem y_st {b : Nat → Nat} {f k j : Nat} (hj : pl_IS b f j) (hl : j < pl_sc b (pl_s b f) k) : ∃ m, m < k ∧ pl_sc b (pl_s b f) m = j := by
  obtain ⟨_, m, rfl⟩ := hj
  refine ⟨m, ?_, rfl⟩
  by_cases z : m < k
  · exact z
  · by_cases e : m = k
    · subst e; omega
    · have := pl_sc_lt b (pl_s b f) k m (by omega)
      omega
theorem y_sub {a p : Nat} : nI (p + a) - nI p = nI a := by
  rw [pk_sub (by omega)]
  exact congrArg nI (by omega)
theorem y_c156 {post : Int32 → SY → Prop} {J33 : Int32 → Prop} {x2 x3 x4 x5 : Int32} {i c l : Nat} (hi : i + 1 < 120 ∨ pl_sz c = 1) (hc : c < 256) (hl : l < 1000) (hv : ∀ i, M i < 256)
    (kbad : pl_sz c = 2 → l ≤ re_b M 3 (i + 1) → post 0 (yru, nI i, ynu, yps, nI 4, yac, yre, yme, yrp, yrq, yrl, fun i => nI (M i), yle, ypr, ywa, ybp, ybq, ybo, ysc, yfn, yat, yhi, ylo, yen)) (kok : (pl_sz c = 2 → re_b M 3 (i + 1) < l) → J33 (nI (360 + (i + pl_sz c)))) :
    wY_codes_156 post J33 x2 x3 x4 x5 (nI (360 + i)) (nI c) (nI l) yru ypl ynu yps yfi yac yre yme yrp yrq yrl (fun i => nI (M i)) yle ypr ywa ybp ybq ybo ysc yfn yat yhi ylo yen := by
  have s : (pl_sz c = 2 → re_b M 3 (i + 1) < l) → wY_codes_190 post J33 x2 x3 x4 x5 (nI (360 + i)) (nI c) yru ypl ynu yps yfi yac yre yme yrp yrq yrl (fun i => nI (M i)) yle ypr ywa ybp ybq ybo ysc yfn yat yhi ylo yen := by
    intro g
    have K := kok g
    refine y_wide hc (fun h => br_f ba_10 (nm_r (e' := nI (360 + (i + 2))) ?_ ?_)) fun h => br_t rfl (nm_r (e' := nI (360 + (i + 1))) ?_ ?_)
    · exact nI_add _ 2
    · rw [h] at K; exact K
    · exact nI_1 _
    · rw [h] at K; exact K
  refine y_wide hc (fun h => br_f ba_10 ?_) fun h => br_t rfl (s fun z => absurd z (by omega))
  have h1 : i + 1 < 120 := by omega
  have e : nI (360 + i) + 1 = nI (360 + (i + 1)) := nI_1 _
  have v := hv (360 + (i + 1))
  rw [e, nI_clamp (by omega)]
  refine ⟨vp_in_nI (by omega) (by omega), pk_lt (M (360 + (i + 1))) l (fun h2 => s fun _ => ?_) fun h2 => ⟨ba_nb0, ?_⟩⟩
  · rw [← y_b3 h1]; exact h2
  · rw [show nI (360 + i) - 360 = nI i from y_sub]
    exact kbad h (by rw [← y_b3 h1]; exact h2)
theorem y_c88 {post : Int32 → SY → Prop} {J33 : Int32 → Prop} {x3 x6 : Int32} {f c : Nat} (hc : c ≤ 16) (h1 : pl_hd (re_b M 3) f + 2 < 120)
    (k : wY_codes_156 post J33 (nI (360 + pl_hd (re_b M 3) f)) x3 (nI (pl_nf (re_b M 3))) (nI (re_b M 3 1)) x6 (nI c) (nI (pl_li (re_b M 3) f c)) yru ypl ynu yps yfi yac yre yme yrp yrq yrl (fun i => nI (M i)) yle ypr ywa ybp ybq ybo ysc yfn yat yhi ylo yen) :
    wY_codes_88 post J33 (nI (360 + pl_hd (re_b M 3) f)) x3 (nI (pl_nf (re_b M 3))) (nI (re_b M 3 1)) x6 (nI c) 256 yru ypl ynu yps yfi yac yre yme yrp yrq yrl (fun i => nI (M i)) yle ypr ywa ybp ybq ybo ysc yfn yat yhi ylo yen := by
  have L : (c = 1 ∨ c = 2) → wY_codes_117 post J33 (nI (360 + pl_hd (re_b M 3) f)) x3 (nI (pl_nf (re_b M 3))) (nI (re_b M 3 1)) x6 (nI c) (nI (re_b M 3 (pl_hd (re_b M 3) f) + re_b M 3 (pl_hd (re_b M 3) f + 1))) yru ypl ynu yps yfi yac yre yme yrp yrq yrl (fun i => nI (M i)) yle ypr ywa ybp ybq ybo ysc yfn yat yhi ylo yen →
      wY_codes_100 post J33 (nI (360 + pl_hd (re_b M 3) f)) x3 (nI (pl_nf (re_b M 3))) (nI (re_b M 3 1)) x6 (nI c) yru ypl ynu yps yfi yac yre yme yrp yrq yrl (fun i => nI (M i)) yle ypr ywa ybp ybq ybo ysc yfn yat yhi ylo yen := by
    intro _ k
    unfold wY_codes_100
    have e : nI (360 + pl_hd (re_b M 3) f) + 1 = nI (360 + (pl_hd (re_b M 3) f + 1)) := nI_1 _
    rw [e, nI_clamp (by omega), nI_clamp (by omega)]
    refine ⟨vp_in_nI (by omega) (by omega), vp_in_nI (by omega) (by omega), nm_r ?_ k⟩
    show nI (M (360 + pl_hd (re_b M 3) f)) + nI (M (360 + (pl_hd (re_b M 3) f + 1))) = _
    rw [y_b3 (M := M) (show pl_hd (re_b M 3) f < 120 by omega), y_b3 (M := M) (show pl_hd (re_b M 3) f + 1 < 120 by omega), nI_add]
  rcases c17 hc with rfl | rfl | rfl | rfl | rfl | rfl | rfl | rfl | rfl | rfl | rfl | rfl | rfl | rfl | rfl | rfl | rfl
  · exact br_f (by decide) (br_f (by decide) (br_f (by decide) (br_f (by decide) (br_f (by decide) (br_f (by decide) k)))))
  · exact br_t (by decide) (L (Or.inl rfl) (br_f (by decide) (br_f (by decide) (br_f (by decide) (br_f (by decide) k)))))
  · exact br_f (by decide) (br_t (by decide) (L (Or.inr rfl) (br_f (by decide) (br_f (by decide) (br_f (by decide) (br_f (by decide) k))))))
  · exact br_f (by decide) (br_f (by decide) (br_f (by decide) (br_f (by decide) (br_f (by decide) (br_f (by decide) k)))))
  · exact br_f (by decide) (br_f (by decide) (br_f (by decide) (br_f (by decide) (br_f (by decide) (br_f (by decide) k)))))
  · exact br_f (by decide) (br_f (by decide) (br_f (by decide) (br_f (by decide) (br_f (by decide) (br_f (by decide) k)))))
  · exact br_f (by decide) (br_f (by decide) (br_f (by decide) (br_f (by decide) (br_f (by decide) (br_f (by decide) k)))))
  · exact br_f (by decide) (br_f (by decide) (br_f (by decide) (br_f (by decide) (br_f (by decide) (br_f (by decide) k)))))
  · exact br_f (by decide) (br_f (by decide) (br_f (by decide) (br_f (by decide) (br_f (by decide) (br_f (by decide) k)))))
  · exact br_f (by decide) (br_f (by decide) (br_f (by decide) (br_f (by decide) (br_f (by decide) (br_f (by decide) k)))))
  · exact br_f (by decide) (br_f (by decide) (br_f (by decide) (br_f (by decide) (br_f (by decide) (br_f (by decide) k)))))
  · exact br_f (by decide) (br_f (by decide) (br_f (by decide) (br_f (by decide) (br_f (by decide) (br_f (by decide) k)))))
  · exact br_f (by decide) (br_f (by decide) (br_t (by decide) (br_f (by decide) (br_f (by decide) (br_f (by decide) k)))))
  · exact br_f (by decide) (br_f (by decide) (br_f (by decide) (br_t (by decide) (br_f (by decide) (br_f (by decide) k)))))
  · exact br_f (by decide) (br_f (by decide) (br_f (by decide) (br_f (by decide) (br_t (by decide) k))))
  · exact br_f (by decide) (br_f (by decide) (br_f (by decide) (br_f (by decide) (br_f (by decide) (br_t (by decide) k)))))
  · exact br_f (by decide) (br_f (by decide) (br_f (by decide) (br_f (by decide) (br_f (by decide) (br_f (by decide) k)))))
theorem y_codes {post : Int32 → SY → Prop} {f : Nat} (hn : n ≤ 120) (hF : pl_Fmt (re_b M 3) n) (hf : f < pl_nf (re_b M 3)) (hv : ∀ i, M i < 256)
    (kbad : ∀ i, pl_FB (re_b M 3) f i → post 0 (yru, nI i, ynu, yps, nI 4, yac, yre, yme, yrp, yrq, yrl, fun i => nI (M i), yle, ypr, ywa, ybp, ybq, ybo, ysc, yfn, yat, yhi, ylo, yen))
    (kok : (∀ i, pl_IS (re_b M 3) f i → ¬ pl_bad (re_b M 3) f i) → post 1 (yru, ypl, ynu, yps, yfi, yac, yre, yme, yrp, yrq, yrl, fun i => nI (M i), yle, ypr, ywa, ybp, ybq, ybo, ysc, yfn, yat, yhi, ylo, yen)) : wpY_codes post (yru, ypl, ynu, yps, yfi, yac, yre, yme, yrp, yrq, yrl, fun i => nI (M i), yle, ypr, ywa, ybp, ybq, ybo, ysc, yfn, yat, yhi, ylo, yen) (nI f) := by
  have he := pl_ef hF hf
  have hh := pl_hf hF hf
  have h4 := hF.2.2.2.1
  have hb1 := hF.1
  have hvb : ∀ i, re_b M 3 i < 256 := by
    intro i
    unfold re_b
    split
    · exact hv _
    · omega
  have hi : ∀ i, i < f + 1 → pl_hd (re_b M 3) i + 2 < 120 := by
    intro i h
    have := pl_hd_le (re_b M 3) i f (by omega)
    omega
  unfold wpY_codes
  dsimp only
  refine y_head (p := 3) (by omega) (by omega) hb1 (fun i h => hi i (by omega)) ?_
  refine y_codeEnd (p := 3) (by omega) (by omega) hb1 hi ?_
  refine y_functions (p := 3) (by omega) hb1 ?_
  refine y_imports (p := 3) (by omega) ?_
  refine nm_r (e' := nI (360 + pl_s (re_b M 3) f)) (nI_add _ 3) ⟨pl_e (re_b M 3) f - pl_s (re_b M 3) f + 1, ?_⟩
  have L : ∀ d k, pl_e (re_b M 3) f ≤ pl_sc (re_b M 3) (pl_s (re_b M 3) f) k + d → pl_sc (re_b M 3) (pl_s (re_b M 3) f) k ≤ pl_e (re_b M 3) f → (∀ m, m < k → ¬ pl_bad (re_b M 3) f (pl_sc (re_b M 3) (pl_s (re_b M 3) f) m)) →
      wY_codes_33 post (nI (360 + pl_hd (re_b M 3) f)) (nI (360 + pl_e (re_b M 3) f)) (nI (pl_nf (re_b M 3))) (nI (re_b M 3 1)) yru ypl ynu yps yfi yac yre yme yrp yrq yrl (fun i => nI (M i)) yle ypr ywa ybp ybq ybo ysc yfn yat yhi ylo yen (d + 1) (nI (360 + pl_sc (re_b M 3) (pl_s (re_b M 3) f) k)) := by
    intro d
    induction d with
    | zero =>
      intro k h1 h2 h3
      refine br_t (nI_le (by omega) (by omega)) (kok fun i hi => ?_)
      obtain ⟨m, hm, rfl⟩ := y_st (k := k) hi (by have := hi.1; omega)
      exact h3 m hm
    | succ d ih =>
      intro k h1 h2 h3
      have hz := pl_sz_pos (re_b M 3 (pl_sc (re_b M 3) (pl_s (re_b M 3) f) k))
      have hsc : pl_sc (re_b M 3) (pl_s (re_b M 3) f) (k + 1) = pl_sc (re_b M 3) (pl_s (re_b M 3) f) k + pl_sz (re_b M 3 (pl_sc (re_b M 3) (pl_s (re_b M 3) f) k)) := rfl
      refine pk_le (360 + pl_e (re_b M 3) f) (360 + pl_sc (re_b M 3) (pl_s (re_b M 3) f) k) (fun h => kok fun i hi => ?_) fun h => ?_
      · obtain ⟨m, hm, rfl⟩ := y_st (k := k) hi (by have := hi.1; omega)
        exact h3 m hm
      have is : pl_IS (re_b M 3) f (pl_sc (re_b M 3) (pl_s (re_b M 3) f) k) := ⟨by omega, k, rfl⟩
      have FB : pl_bad (re_b M 3) f (pl_sc (re_b M 3) (pl_s (re_b M 3) f) k) → pl_FB (re_b M 3) f (pl_sc (re_b M 3) (pl_s (re_b M 3) f) k) := fun z => ⟨is, z, fun j hj hjs => by
        obtain ⟨m, hm, rfl⟩ := y_st (k := k) hjs hj
        exact h3 m hm⟩
      have B76 : pl_bad (re_b M 3) f (pl_sc (re_b M 3) (pl_s (re_b M 3) f) k) → wY_codes_76 post (nI (360 + pl_sc (re_b M 3) (pl_s (re_b M 3) f) k)) yru ypl ynu yps yfi yac yre yme yrp yrq yrl (fun i => nI (M i)) yle ypr ywa ybp ybq ybo ysc yfn yat yhi ylo yen := by
        intro z
        unfold wY_codes_76
        rw [show nI (360 + pl_sc (re_b M 3) (pl_s (re_b M 3) f) k) - 360 = nI (pl_sc (re_b M 3) (pl_s (re_b M 3) f) k) from y_sub]
        exact ⟨ba_nb0, kbad _ (FB z)⟩
      have vb := hvb (pl_sc (re_b M 3) (pl_s (re_b M 3) f) k)
      have sc := ih (k + 1)
      rw [hsc] at sc
      generalize ei : pl_sc (re_b M 3) (pl_s (re_b M 3) f) k = i at *
      refine ⟨vp_in_nI (by omega) (by omega), nm_r (e' := nI (re_b M 3 i)) ?_ ?_⟩
      · show nI (M (nI (360 + i)).toNatClampNeg) = _
        rw [nI_clamp (by omega), y_b3 (M := M) (show i < 120 by omega)]
      refine pk_lt 16 (re_b M 3 i) (fun h5 => B76 (Or.inl h5)) fun h5 => ?_
      have C : (pl_sz (re_b M 3 i) = 2 → i + 1 < pl_e (re_b M 3) f) → wY_codes_88 post (wY_codes_33 post (nI (360 + pl_hd (re_b M 3) f)) (nI (360 + pl_e (re_b M 3) f)) (nI (pl_nf (re_b M 3))) (nI (re_b M 3 1)) yru ypl ynu yps yfi yac yre yme yrp yrq yrl (fun i => nI (M i)) yle ypr ywa ybp ybq ybo ysc yfn yat yhi ylo yen (d + 1)) (nI (360 + pl_hd (re_b M 3) f)) (nI (360 + pl_e (re_b M 3) f)) (nI (pl_nf (re_b M 3))) (nI (re_b M 3 1)) (nI (360 + i)) (nI (re_b M 3 i)) 256 yru ypl ynu yps yfi yac yre yme yrp yrq yrl (fun i => nI (M i)) yle ypr ywa ybp ybq ybo ysc yfn yat yhi ylo yen := by
        intro g
        refine y_c88 h5 (by omega) (y_c156 ?_ vb (pl_li_lt hF hf) hv (fun g1 g2 => kbad i (FB (Or.inr ⟨g1, Or.inr g2⟩))) fun g1 => ?_)
        · by_cases e2 : pl_sz (re_b M 3 i) = 2
          · exact Or.inl (by have := g e2; omega)
          · exact Or.inr (by omega)
        · refine sc (by omega) (by omega) fun m hm => ?_
          by_cases em : m = k
          · subst em
            rw [ei]
            intro z
            unfold pl_bad at z
            have g3 : pl_sz (re_b M 3 i) = 2 → i + 1 < pl_e (re_b M 3) f := g
            omega
          · exact h3 m (by omega)
      refine y_wide vb (fun h6 => br_f ba_10 ?_) fun h6 => br_t rfl (C fun z => absurd z (by omega))
      rw [show nI (360 + i) + 1 = nI (360 + (i + 1)) from nI_1 _]
      exact pk_eq (360 + (i + 1)) (360 + pl_e (re_b M 3) f) (fun e => B76 (Or.inr ⟨h6, Or.inl (by omega)⟩)) fun e => C fun _ => by omega
  exact L (pl_e (re_b M 3) f - pl_s (re_b M 3) f) 0 (by show _ ≤ pl_s (re_b M 3) f + _; omega) (by show pl_s (re_b M 3) f ≤ _; exact Nat.le_of_lt hh) fun m hm => absurd hm (by omega)
end B2
