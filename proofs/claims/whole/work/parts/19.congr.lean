section C7
variable {n : Nat} {b b' : Nat → Nat}
/-! a plugin's bytes beyond its length don't count -/
theorem cg_1 (hF : pl_Fmt b n) (ha : ∀ i, i < n → b' i = b i) : b' 1 = b 1 := by
  have h1 := pl_hd_le b 0 (pl_nf b) (by omega)
  have h2 := hF.2.2.2.2.2
  have h3 : pl_hd b 0 = 3 + 3 * b 1 := rfl
  exact ha 1 (by omega)
theorem cg_nf (hF : pl_Fmt b n) (ha : ∀ i, i < n → b' i = b i) : pl_nf b' = pl_nf b := by
  have h1 := pl_hd_le b 0 (pl_nf b) (by omega)
  have h2 := hF.2.2.2.2.2
  have h3 : pl_hd b 0 = 3 + 3 * b 1 := rfl
  unfold pl_nf at *
  rw [cg_1 hF ha]
  exact ha _ (by omega)
theorem cg_hd (hF : pl_Fmt b n) (ha : ∀ i, i < n → b' i = b i) : ∀ f, f ≤ pl_nf b → pl_hd b' f = pl_hd b f := by
  intro f
  induction f with
  | zero => intro _; show 3 + 3 * b' 1 = 3 + 3 * b 1; rw [cg_1 hF ha]
  | succ f ih =>
    intro hf
    have h1 := pl_hf hF (f := f) (by omega)
    have h2 := pl_ef hF (f := f) (by omega)
    show pl_hd b' f + 3 + b' (pl_hd b' f + 2) = pl_hd b f + 3 + b (pl_hd b f + 2)
    rw [ih (by omega), ha _ (by omega)]
theorem cg_s (hF : pl_Fmt b n) (ha : ∀ i, i < n → b' i = b i) {f : Nat} (hf : f < pl_nf b) : pl_s b' f = pl_s b f := by
  unfold pl_s; rw [cg_hd hF ha f (by omega)]
theorem cg_e (hF : pl_Fmt b n) (ha : ∀ i, i < n → b' i = b i) {f : Nat} (hf : f < pl_nf b) : pl_e b' f = pl_e b f := by
  rw [pl_e_hd, pl_e_hd, cg_hd hF ha (f + 1) (by omega)]
theorem cg_sc {e s : Nat} (ha : ∀ i, i < e → b' i = b i) : ∀ k, (∀ m, m < k → pl_sc b s m < e) → pl_sc b' s k = pl_sc b s k := by
  intro k
  induction k with
  | zero => intro _; rfl
  | succ k ih =>
    intro h
    show pl_sc b' s k + pl_sz (b' (pl_sc b' s k)) = pl_sc b s k + pl_sz (b (pl_sc b s k))
    rw [ih fun m hm => h m (by omega), ha _ (h k (by omega))]
theorem cg_IS (hF : pl_Fmt b n) (ha : ∀ i, i < n → b' i = b i) {f i : Nat} (hf : f < pl_nf b) : pl_IS b' f i ↔ pl_IS b f i := by
  have he := pl_ef hF hf
  unfold pl_IS
  rw [cg_e hF ha hf, cg_s hF ha hf]
  constructor
  · rintro ⟨h1, k, rfl⟩
    refine ⟨h1, k, ?_⟩
    exact cg_sc (b := b') (b' := b) (e := pl_e b f) (fun i hi => (ha i (by omega)).symm) k fun m hm => by have := pl_sc_lt b' (pl_s b f) m k hm; omega
  · rintro ⟨h1, k, rfl⟩
    refine ⟨h1, k, ?_⟩
    exact cg_sc (e := pl_e b f) (fun i hi => ha i (by omega)) k fun m hm => by have := pl_sc_lt b (pl_s b f) m k hm; omega
theorem cg_li (hF : pl_Fmt b n) (ha : ∀ i, i < n → b' i = b i) {f c : Nat} (hf : f < pl_nf b) : pl_li b' f c = pl_li b f c := by
  have h1 := pl_hf hF hf
  have h2 := pl_ef hF hf
  unfold pl_li
  rw [cg_hd hF ha f (by omega), cg_nf hF ha, cg_1 hF ha, ha (pl_hd b f) (by omega), ha (pl_hd b f + 1) (by omega)]
theorem cg_bad (hF : pl_Fmt b n) (ha : ∀ i, i < n → b' i = b i) {f i : Nat} (hf : f < pl_nf b) (hi : i < pl_e b f) (h : ¬ pl_bad b f i) : ¬ pl_bad b' f i := by
  have h2 := pl_ef hF hf
  unfold pl_bad
  rw [cg_e hF ha hf, ha i (by omega), cg_li hF ha hf]
  intro z
  by_cases e : pl_e b f ≤ i + 1
  · unfold pl_bad at h
    omega
  · rw [ha (i + 1) (by omega)] at z
    exact h z
theorem cg_tg (hF : pl_Fmt b n) (ha : ∀ i, i < n → b' i = b i) {f i : Nat} (hf : f < pl_nf b) (h : ¬ pl_bad b f i) (hj : b i = 10 ∨ b i = 11) : pl_tg b' i = pl_tg b i := by
  have h2 := pl_ef hF hf
  have := pl_wide h (pl_sz2.mpr (by omega))
  unfold pl_tg
  rw [ha (i + 1) (by omega)]
theorem cg_tk (hF : pl_Fmt b n) (ha : ∀ i, i < n → b' i = b i) {f i : Nat} (hf : f < pl_nf b) (hi : i < pl_e b f) (h : ¬ pl_bad b f i) : pl_tk b' i = pl_tk b i := by
  have h2 := pl_ef hF hf
  unfold pl_tk
  rw [ha i (by omega)]
  by_cases e : b i = 12
  · have g := pl_call h e
    have w := pl_wide h (pl_sz2.mpr (by omega))
    have g1 := pl_hf hF g
    have g2 := pl_ef hF g
    rw [if_pos e, if_pos e, ha (i + 1) (by omega), cg_hd hF ha _ (by omega), ha _ (by omega)]
  · rw [if_neg e, if_neg e]
theorem cg_L (hF : pl_Fmt b n) (ha : ∀ i, i < n → b' i = b i) {f j : Nat} (hf : f < pl_nf b) (hB : ∀ i, pl_IS b f i → ¬ pl_bad b f i) : pl_L b' f j ↔ pl_L b f j := by
  have h2 := pl_ef hF hf
  unfold pl_L
  rw [cg_s hF ha hf]
  constructor
  · rintro (h | ⟨i, hi, h⟩)
    · exact Or.inl h
    · have hi' := (cg_IS hF ha hf).mp hi
      have hl := hi'.1
      rw [ha i (by omega)] at h
      refine Or.inr ⟨i, hi', ?_⟩
      rcases h with ⟨c, e⟩ | h
      · exact Or.inl ⟨c, by rw [← cg_tg hF ha hf (hB i hi') c]; exact e⟩
      · exact Or.inr h
  · rintro (h | ⟨i, hi, h⟩)
    · exact Or.inl h
    · have hl := hi.1
      refine Or.inr ⟨i, (cg_IS hF ha hf).mpr hi, ?_⟩
      rw [ha i (by omega)]
      rcases h with ⟨c, e⟩ | h
      · exact Or.inl ⟨c, by rw [cg_tg hF ha hf (hB i hi) c]; exact e⟩
      · exact Or.inr h
theorem cg_T (hF : pl_Fmt b n) (ha : ∀ i, i < n → b' i = b i) {f : Nat} (hf : f < pl_nf b) (hB : ∀ i, pl_IS b f i → ¬ pl_bad b f i) : ∀ d i, pl_e b f - i ≤ d → pl_T b' f i = pl_T b f i := by
  have h2 := pl_ef hF hf
  intro d
  induction d with
  | zero =>
    intro i hi
    rw [pl_T_end (show pl_e b f ≤ i by omega), pl_T_end (show pl_e b' f ≤ i by rw [cg_e hF ha hf]; omega)]
  | succ d ih =>
    intro i hi
    by_cases e : pl_e b f ≤ i
    · rw [pl_T_end e, pl_T_end (show pl_e b' f ≤ i by rw [cg_e hF ha hf]; omega)]
    · by_cases hL : pl_L b f i
      · rw [pl_T_L hL, pl_T_L ((cg_L hF ha hf hB).mpr hL)]
      · have := pl_sz_pos (b i)
        rw [pl_T_n (by omega) hL, pl_T_n (by rw [cg_e hF ha hf]; omega) (fun z => hL ((cg_L hF ha hf hB).mp z)), ha i (by omega), ih _ (by omega)]
theorem cg_C (hF : pl_Fmt b n) (ha : ∀ i, i < n → b' i = b i) {f i : Nat} (hf : f < pl_nf b) (hB : ∀ i, pl_IS b f i → ¬ pl_bad b f i) (hi : i < pl_e b f) : pl_C b' f i = pl_C b f i := by
  have h2 := pl_ef hF hf
  by_cases hL : pl_L b f i
  · rw [pl_C_L hL, pl_C_L ((cg_L hF ha hf hB).mpr hL), ha i (by omega), cg_T hF ha hf hB _ _ (Nat.le_refl _)]
  · rw [pl_C_n hL, pl_C_n (fun z => hL ((cg_L hF ha hf hB).mp z))]
theorem cg_WF (hW : pl_WF b n) (ha : ∀ i, i < n → b' i = b i) : pl_WF b' n := by
  obtain ⟨hn, hF, hf⟩ := hW
  have h0 := hF.2.2.2.2.2
  have e1 := cg_1 hF ha
  have e2 := cg_nf hF ha
  have hd0 := pl_hd_le b 0 (pl_nf b) (by omega)
  have hd0' : pl_hd b 0 = 3 + 3 * b 1 := rfl
  refine ⟨hn, ⟨by rw [e1]; exact hF.1, fun i hi => ?_, by rw [e2]; exact hF.2.2.1, by rw [e2]; exact hF.2.2.2.1, fun f hf' => ?_, by rw [e2, cg_hd hF ha _ (Nat.le_refl _)]; exact h0⟩, fun f hf' => ?_⟩
  · rw [e1] at hi
    rw [ha _ (by omega)]
    exact hF.2.1 i hi
  · rw [e2] at hf'
    have g1 := pl_hf hF hf'
    have g2 := pl_ef hF hf'
    rw [cg_hd hF ha f (by omega), ha _ (by omega), ha _ (by omega), ha _ (by omega)]
    exact hF.2.2.2.2.1 f hf'
  · rw [e2] at hf'
    obtain ⟨hB, hJ, R, hG⟩ := hf f hf'
    have g2 := pl_ef hF hf'
    refine ⟨fun i hi => ?_, fun i hi => ?_, fun i h => R i h ∧ pl_IS b f i, ?_⟩
    · have hi' := (cg_IS hF ha hf').mp hi
      exact cg_bad hF ha hf' hi'.1 (hB i hi')
    · have hi' := (cg_IS hF ha hf').mp hi
      have hl := hi'.1
      intro c
      rw [ha i (by omega)] at c
      obtain ⟨j, q1, q2, q3⟩ := hJ i hi' c
      exact ⟨j, by rw [cg_tg hF ha hf' (hB i hi') c]; exact q1, by rw [cg_s hF ha hf']; exact q2, (cg_IS hF ha hf').mpr q3⟩
    · refine ⟨⟨by rw [cg_s hF ha hf']; exact hG.1, by rw [cg_s hF ha hf']; exact pl_IS0 (hF.2.2.2.2.1 f hf').2.2.1⟩, fun i h h' q q' => hG.2.1 i h h' q.1 q'.1, fun i h q => ?_⟩
      have hl := q.2.1
      obtain ⟨p1, p2, p3, p4⟩ := hG.2.2 i h q.1
      rw [cg_tk hF ha hf' hl (hB i q.2), ha i (by omega), cg_e hF ha hf', cg_s hF ha hf']
      refine ⟨p1, p2, fun c => ?_, fun c1 c2 => ⟨(p4 c1 c2).1, (p4 c1 c2).2, pl_ISn q.2 (p4 c1 c2).1⟩⟩
      obtain ⟨j, r1, r2, r3, r4⟩ := p3 c
      obtain ⟨j', s1, s2, s3⟩ := hJ i q.2 c
      have : j = j' := by omega
      subst this
      exact ⟨j, by rw [cg_tg hF ha hf' (hB i q.2) c]; exact r1, r2, r3, r4, s3⟩
end C7
