section B5
/-! the flow check, pure: E a = 0: not reached, h + 1: reached with h entries; rl: the list of the reached -/
def fl_cn (E : Nat → Nat) (s : Nat) : Nat → Nat
  | 0 => 0
  | d + 1 => fl_cn E s d + (if E (s + d) = 0 then 0 else 1)
theorem fl_cn_le (E : Nat → Nat) (s : Nat) : ∀ d, fl_cn E s d ≤ d := by
  intro d
  induction d with
  | zero => exact Nat.le_refl _
  | succ d ih =>
    show fl_cn E s d + _ ≤ _
    split <;> omega
theorem fl_cn_lt {E : Nat → Nat} {s a : Nat} (h0 : E a = 0) (h1 : s ≤ a) : ∀ d, a < s + d → fl_cn E s d < d := by
  intro d
  induction d with
  | zero => intro h; omega
  | succ d ih =>
    intro h
    show fl_cn E s d + _ < _
    by_cases e : a = s + d
    · subst e
      rw [if_pos h0]
      have := fl_cn_le E s d
      omega
    · have := ih (by omega)
      split <;> omega
theorem fl_cn_out {E : Nat → Nat} {s a v : Nat} : ∀ d, s + d ≤ a → fl_cn (um_f E a v) s d = fl_cn E s d := by
  intro d
  induction d with
  | zero => intro _; rfl
  | succ d ih =>
    intro h
    show fl_cn (um_f E a v) s d + (if um_f E a v (s + d) = 0 then 0 else 1) = fl_cn E s d + _
    rw [ih (by omega), um_n (by omega)]
theorem fl_cn_in {E : Nat → Nat} {s a v : Nat} (h0 : E a = 0) (h1 : s ≤ a) (hv : v ≠ 0) : ∀ d, a < s + d → fl_cn (um_f E a v) s d = fl_cn E s d + 1 := by
  intro d
  induction d with
  | zero => intro h; omega
  | succ d ih =>
    intro h
    show fl_cn (um_f E a v) s d + (if um_f E a v (s + d) = 0 then 0 else 1) = fl_cn E s d + (if E (s + d) = 0 then 0 else 1) + 1
    by_cases e : a = s + d
    · subst e
      rw [fl_cn_out d (by omega), um_s, if_neg hv, if_pos h0]
    · rw [ih (by omega), um_n (by omega)]
      omega
def fl_WI (b : Nat → Nat) (f c : Nat) (E rl : Nat → Nat) : Prop :=
  c ≤ 40 ∧ (∀ i, i < c → pl_s b f ≤ rl i ∧ pl_IS b f (rl i) ∧ 1 ≤ E (rl i)) ∧ (∀ a, pl_s b f ≤ a → a < pl_e b f → 1 ≤ E a → ∃ i, i < c ∧ rl i = a) ∧ (∀ a, E a ≤ 7) ∧ c = fl_cn E (pl_s b f) (pl_e b f - pl_s b f)
/-- grown: what was reached stays as it was -/
def fl_XT (c c' : Nat) (E E' rl rl' : Nat → Nat) : Prop := c ≤ c' ∧ (∀ a, 1 ≤ E a → E' a = E a) ∧ ∀ i, i < c → rl' i = rl i
def fl_SR (b : Nat → Nat) (f : Nat) (R : Nat → Nat → Prop) (E : Nat → Nat) : Prop := ∀ a, pl_s b f ≤ a → a < pl_e b f → 1 ≤ E a → R a (E a - 1)
def fl_CL (b : Nat → Nat) (f : Nat) (E : Nat → Nat) (i : Nat) : Prop :=
  pl_tk b i ≤ E i - 1 ∧ E i - 1 - pl_tk b i + pl_gv (b i) ≤ 6 ∧
    ((b i = 10 ∨ b i = 11) → ∃ j : Nat, pl_tg b i = (j : Int) ∧ pl_s b f ≤ j ∧ j < pl_e b f ∧ E j = E i - 1 - pl_tk b i + pl_gv (b i) + 1) ∧
    (b i ≠ 10 → b i ≠ 16 → i + pl_sz (b i) < pl_e b f ∧ E (i + pl_sz (b i)) = E i - 1 - pl_tk b i + pl_gv (b i) + 1)
theorem fl_CLx {b : Nat → Nat} {f c c' i : Nat} {E E' rl rl' : Nat → Nat} (hx : fl_XT c c' E E' rl rl') (hi : 1 ≤ E i) (h : fl_CL b f E i) : fl_CL b f E' i := by
  have e := hx.2.1 i hi
  unfold fl_CL
  rw [e]
  obtain ⟨h1, h2, h3, h4⟩ := h
  refine ⟨h1, h2, fun z => ?_, fun z1 z2 => ?_⟩
  · obtain ⟨j, g1, g2, g3, g4⟩ := h3 z
    exact ⟨j, g1, g2, g3, by rw [hx.2.1 j (by omega)]; exact g4⟩
  · obtain ⟨g1, g2⟩ := h4 z1 z2
    exact ⟨g1, by rw [hx.2.1 _ (by omega)]; exact g2⟩
theorem fl_XTr {c c' c'' : Nat} {E E' E'' rl rl' rl'' : Nat → Nat} (h : fl_XT c c' E E' rl rl') (h' : fl_XT c' c'' E' E'' rl' rl'') : fl_XT c c'' E E'' rl rl'' := by
  refine ⟨by have := h.1; have := h'.1; omega, fun a ha => ?_, fun i hi => ?_⟩
  · rw [h'.2.1 a (by rw [h.2.1 a ha]; exact ha), h.2.1 a ha]
  · rw [h'.2.2 i (by have := h.1; omega), h.2.2 i hi]
theorem fl_XT0 {c : Nat} {E rl : Nat → Nat} : fl_XT c c E E rl rl := ⟨Nat.le_refl _, fun _ _ => rfl, fun _ _ => rfl⟩
/-- closed: the reached instructions are a good set of ways -/
theorem fl_good {b : Nat → Nat} {f c : Nat} {E rl : Nat → Nat} (hW : fl_WI b f c E rl) (hs : pl_s b f < pl_e b f) (h0 : E (pl_s b f) = 1) (hC : ∀ i, i < c → fl_CL b f E (rl i)) : pl_Flow b f := by
  refine ⟨fun a h => pl_s b f ≤ a ∧ a < pl_e b f ∧ E a = h + 1, ⟨Nat.le_refl _, hs, h0⟩, fun i h h' h1 h2 => by omega, fun i h hR => ?_⟩
  obtain ⟨i', h1, rfl⟩ := hW.2.2.1 i hR.1 hR.2.1 (by omega)
  have eh : h = E (rl i') - 1 := by have := hR.2.2; omega
  obtain ⟨g1, g2, g3, g4⟩ := hC i' h1
  rw [eh]
  have hr := hW.2.1 i' h1
  refine ⟨g1, g2, fun z => ?_, fun z1 z2 => ?_⟩
  · obtain ⟨j, q1, q2, q3, q4⟩ := g3 z
    exact ⟨j, q1, q2, q3, q2, q3, q4⟩
  · obtain ⟨q1, q2⟩ := g4 z1 z2
    exact ⟨q1, by omega, q1, q2⟩
end B5
section B6
variable {r n : Nat} {pt M b : Nat → Nat} {xrc xbc xfc xrn xra xfi xfp xgn xac xlr : Int32} {xhm : Int64} {xrp xrA xrB xrC xby xhd xst xbg xco xen xre xld xim xic xih xif xop xbp xbq xsc xna xhe xlo xsk : Nat → Int32} {yru ypl ynu yps yfi yac yre : Int32} {yme : Int64} {yrp yrq yrl yby yle ypr ywa ybp ybq ybo ysc yfn yat yhi ylo yen : Nat → Int32}
theorem pl_tk2 {b : Nat → Nat} {n f i : Nat} (hF : pl_Fmt b n) (hc : ¬ pl_bad b f i) : pl_tk b i ≤ 2 := by
  unfold pl_tk
  split
  · rename_i h
    unfold pl_bad at hc
    have h2 : pl_sz (b i) = 2 := pl_sz2.mpr (by omega)
    have h3 : pl_li b f (b i) = pl_nf b := by unfold pl_li; rw [h]; rfl
    exact (hF.2.2.2.2.1 (b (i + 1)) (by omega)).1
  · split
    · omega
    · split <;> omega
theorem pl_gv2 (c : Nat) : pl_gv c ≤ 2 := by
  unfold pl_gv
  split
  · omega
  · split <;> omega
theorem pl_call {b : Nat → Nat} {f i : Nat} (hc : ¬ pl_bad b f i) (h : b i = 12) : b (i + 1) < pl_nf b := by
  unfold pl_bad at hc
  have h2 : pl_sz (b i) = 2 := pl_sz2.mpr (by omega)
  have h3 : pl_li b f (b i) = pl_nf b := by unfold pl_li; rw [h]; rfl
  omega
theorem x_taken {post : Int32 → Prop} {f a : Nat} (hn : n ≤ 120) (hF : pl_Fmt b n) (hf : f < pl_nf b) (h0 : ∀ f, f < pl_nf b → xhd f = nI (pl_hd b f)) (hb : ∀ i, i < 120 → xby i = nI (b i)) (hv : ∀ i, b i < 256) (ha : a < pl_e b f) (hc : ¬ pl_bad b f a)
    (k : post (nI (pl_tk b a))) : wpX_entriesTaken post (xrc, xbc, xfc, xrn, xra, xfi, xfp, xgn, xac, xlr, xhm, xrp, xrA, xrB, xrC, xby, xhd, xst, xbg, xco, xen, xre, xld, xim, xic, xih, xif, xop, xbp, xbq, xsc, xna, xhe, xlo, xsk) (nI a) := by
  have he := pl_ef hF hf
  have h4 := hF.2.2.2.1
  unfold wpX_entriesTaken
  dsimp only
  rw [nI_clamp (by omega), hb a (by omega)]
  refine ⟨vp_in_nI (by omega) (by omega), nm_e ?_⟩
  have h16 : b a ≤ 16 := by unfold pl_bad at hc; omega
  rcases c17 h16 with e | e | e | e | e | e | e | e | e | e | e | e | e | e | e | e | e
  · have hw := pl_call hc
    rw [show pl_tk b a = 0 by simp [pl_tk, e]] at k
    rw [e]
    exact br_f (by decide) (br_f (by decide) (br_t (by decide) k))
  · have hw := pl_call hc
    rw [show pl_tk b a = 0 by simp [pl_tk, e]] at k
    rw [e]
    exact br_f (by decide) (br_f (by decide) (br_f (by decide) (br_t (by decide) k)))
  · have hw := pl_call hc
    rw [show pl_tk b a = 1 by simp [pl_tk, e]] at k
    rw [e]
    exact br_f (by decide) (br_f (by decide) (br_f (by decide) (br_f (by decide) (br_t (by decide) k))))
  · have hw := pl_call hc
    rw [show pl_tk b a = 2 by simp [pl_tk, e]] at k
    rw [e]
    exact br_f (by decide) (br_f (by decide) (br_f (by decide) (br_f (by decide) (br_f (by decide) (br_t (by decide) k)))))
  · have hw := pl_call hc
    rw [show pl_tk b a = 2 by simp [pl_tk, e]] at k
    rw [e]
    exact br_f (by decide) (br_f (by decide) (br_f (by decide) (br_f (by decide) (br_f (by decide) (br_f (by decide) (br_t (by decide) k))))))
  · have hw := pl_call hc
    rw [show pl_tk b a = 2 by simp [pl_tk, e]] at k
    rw [e]
    exact br_f (by decide) (br_f (by decide) (br_f (by decide) (br_f (by decide) (br_f (by decide) (br_f (by decide) (br_f (by decide) (br_t (by decide) k)))))))
  · have hw := pl_call hc
    rw [show pl_tk b a = 2 by simp [pl_tk, e]] at k
    rw [e]
    exact br_f (by decide) (br_f (by decide) (br_f (by decide) (br_f (by decide) (br_f (by decide) (br_f (by decide) (br_f (by decide) (br_f (by decide) (br_t (by decide) k))))))))
  · have hw := pl_call hc
    rw [show pl_tk b a = 2 by simp [pl_tk, e]] at k
    rw [e]
    exact br_f (by decide) (br_f (by decide) (br_f (by decide) (br_f (by decide) (br_f (by decide) (br_f (by decide) (br_f (by decide) (br_f (by decide) (br_f (by decide) (br_t (by decide) k)))))))))
  · have hw := pl_call hc
    rw [show pl_tk b a = 1 by simp [pl_tk, e]] at k
    rw [e]
    exact br_f (by decide) (br_f (by decide) (br_f (by decide) (br_f (by decide) (br_f (by decide) (br_f (by decide) (br_f (by decide) (br_f (by decide) (br_f (by decide) (br_f (by decide) (br_t (by decide) k))))))))))
  · have hw := pl_call hc
    rw [show pl_tk b a = 1 by simp [pl_tk, e]] at k
    rw [e]
    exact br_f (by decide) (br_f (by decide) (br_f (by decide) (br_f (by decide) (br_f (by decide) (br_f (by decide) (br_f (by decide) (br_f (by decide) (br_f (by decide) (br_f (by decide) (br_f (by decide) (br_t (by decide) k)))))))))))
  · have hw := pl_call hc
    rw [show pl_tk b a = 0 by simp [pl_tk, e]] at k
    rw [e]
    exact br_f (by decide) (br_f (by decide) (br_f (by decide) (br_f (by decide) (br_f (by decide) (br_f (by decide) (br_f (by decide) (br_f (by decide) (br_f (by decide) (br_f (by decide) (br_f (by decide) (br_f (by decide) (br_t (by decide) k))))))))))))
  · have hw := pl_call hc
    rw [show pl_tk b a = 1 by simp [pl_tk, e]] at k
    rw [e]
    exact br_f (by decide) (br_f (by decide) (br_f (by decide) (br_f (by decide) (br_f (by decide) (br_f (by decide) (br_f (by decide) (br_f (by decide) (br_f (by decide) (br_f (by decide) (br_f (by decide) (br_f (by decide) (br_f (by decide) (br_t (by decide) k)))))))))))))
  · have hw := pl_call hc
    rw [e]
    have hg := hw e
    have hw2 : a + 1 < pl_e b f := pl_wide hc (pl_sz2.mpr (by omega))
    have hgh := pl_hf hF hg
    have hge := pl_ef hF hg
    rw [show pl_tk b a = b (pl_hd b (b (a + 1))) by simp [pl_tk, e]] at k
    rw [nI_1, nI_clamp (by omega), hb (a + 1) (by omega), nI_clamp (by omega), h0 _ hg, nI_clamp (by omega), hb (pl_hd b (b (a + 1))) (by omega)]
    exact br_f (by decide) (br_f (by decide) (br_f (by decide) (br_f (by decide) (br_f (by decide) (br_f (by decide) (br_f (by decide) (br_f (by decide) (br_f (by decide) (br_f (by decide) (br_f (by decide) (br_f (by decide) (br_f (by decide) (br_f (by decide) (br_t (by decide) ⟨vp_in_nI (by omega) (by omega), vp_in_nI (by omega) (by omega), vp_in_nI (by omega) (by omega), k⟩))))))))))))))
  · have hw := pl_call hc
    rw [show pl_tk b a = 1 by simp [pl_tk, e]] at k
    rw [e]
    exact br_f (by decide) (br_f (by decide) (br_f (by decide) (br_f (by decide) (br_f (by decide) (br_f (by decide) (br_f (by decide) (br_f (by decide) (br_f (by decide) (br_f (by decide) (br_f (by decide) (br_f (by decide) (br_f (by decide) (br_f (by decide) (br_f (by decide) (br_t (by decide) k)))))))))))))))
  · have hw := pl_call hc
    rw [show pl_tk b a = 0 by simp [pl_tk, e]] at k
    rw [e]
    exact br_f (by decide) (br_f (by decide) (br_f (by decide) (br_f (by decide) (br_f (by decide) (br_f (by decide) (br_f (by decide) (br_f (by decide) (br_f (by decide) (br_f (by decide) (br_f (by decide) (br_f (by decide) (br_f (by decide) (br_f (by decide) (br_f (by decide) (br_f (by decide) (br_t (by decide) k))))))))))))))))
  · have hw := pl_call hc
    rw [show pl_tk b a = 1 by simp [pl_tk, e]] at k
    rw [e]
    exact br_f (by decide) (br_t (by decide) k)
  · have hw := pl_call hc
    rw [show pl_tk b a = 1 by simp [pl_tk, e]] at k
    rw [e]
    exact br_f (by decide) (br_t (by decide) k)
theorem x_given {post : Int32 → Prop} {c : Nat} (hc : c ≤ 16) (k : post (nI (pl_gv c))) : wpX_entriesGiven post (xrc, xbc, xfc, xrn, xra, xfi, xfp, xgn, xac, xlr, xhm, xrp, xrA, xrB, xrC, xby, xhd, xst, xbg, xco, xen, xre, xld, xim, xic, xih, xif, xop, xbp, xbq, xsc, xna, xhe, xlo, xsk) (nI c) := by
  unfold wpX_entriesGiven
  dsimp only
  rcases c17 hc with rfl | rfl | rfl | rfl | rfl | rfl | rfl | rfl | rfl | rfl | rfl | rfl | rfl | rfl | rfl | rfl | rfl
  · exact br_t (by decide) k
  · exact br_t (by decide) k
  · exact br_f (by decide) (br_f (by decide) (br_t (by decide) k))
  · exact br_f (by decide) (br_f (by decide) (br_f (by decide) (br_t (by decide) k)))
  · exact br_f (by decide) (br_f (by decide) (br_f (by decide) (br_f (by decide) (br_t (by decide) k))))
  · exact br_f (by decide) (br_f (by decide) (br_f (by decide) (br_f (by decide) (br_f (by decide) (br_t (by decide) k)))))
  · exact br_f (by decide) (br_f (by decide) (br_f (by decide) (br_f (by decide) (br_f (by decide) (br_f (by decide) (br_t (by decide) k))))))
  · exact br_f (by decide) (br_f (by decide) (br_f (by decide) (br_f (by decide) (br_f (by decide) (br_f (by decide) (br_f (by decide) (br_t (by decide) k)))))))
  · exact br_f (by decide) (br_f (by decide) (br_f (by decide) (br_f (by decide) (br_f (by decide) (br_f (by decide) (br_f (by decide) (br_f (by decide) (br_t (by decide) k))))))))
  · exact br_f (by decide) (br_f (by decide) (br_f (by decide) (br_f (by decide) (br_f (by decide) (br_f (by decide) (br_f (by decide) (br_f (by decide) (br_f (by decide) (br_t (by decide) k)))))))))
  · exact br_f (by decide) (br_f (by decide) (br_f (by decide) (br_f (by decide) (br_f (by decide) (br_f (by decide) (br_f (by decide) (br_f (by decide) (br_f (by decide) (br_f (by decide) (br_t (by decide) k))))))))))
  · exact br_f (by decide) (br_f (by decide) (br_f (by decide) (br_f (by decide) (br_f (by decide) (br_f (by decide) (br_f (by decide) (br_f (by decide) (br_f (by decide) (br_f (by decide) (br_f (by decide) (br_t (by decide) k)))))))))))
  · exact br_f (by decide) (br_f (by decide) (br_f (by decide) (br_f (by decide) (br_f (by decide) (br_f (by decide) (br_f (by decide) (br_f (by decide) (br_f (by decide) (br_f (by decide) (br_f (by decide) (br_f (by decide) (br_t (by decide) k))))))))))))
  · exact br_f (by decide) (br_f (by decide) (br_f (by decide) (br_f (by decide) (br_f (by decide) (br_f (by decide) (br_f (by decide) (br_f (by decide) (br_f (by decide) (br_f (by decide) (br_f (by decide) (br_f (by decide) (br_f (by decide) (br_t (by decide) k)))))))))))))
  · exact br_f (by decide) (br_f (by decide) (br_f (by decide) (br_f (by decide) (br_f (by decide) (br_f (by decide) (br_f (by decide) (br_f (by decide) (br_f (by decide) (br_f (by decide) (br_f (by decide) (br_f (by decide) (br_f (by decide) (br_f (by decide) (br_t (by decide) k))))))))))))))
  · exact br_f (by decide) (br_f (by decide) (br_f (by decide) (br_f (by decide) (br_f (by decide) (br_f (by decide) (br_f (by decide) (br_f (by decide) (br_f (by decide) (br_f (by decide) (br_f (by decide) (br_f (by decide) (br_f (by decide) (br_f (by decide) (br_f (by decide) (br_t (by decide) k)))))))))))))))
  · exact br_f (by decide) (br_f (by decide) (br_f (by decide) (br_f (by decide) (br_f (by decide) (br_f (by decide) (br_f (by decide) (br_f (by decide) (br_f (by decide) (br_f (by decide) (br_f (by decide) (br_f (by decide) (br_f (by decide) (br_f (by decide) (br_f (by decide) (br_f (by decide) (br_t (by decide) k))))))))))))))))
def fl_EC (s e c : Nat) (E rl : Nat → Nat) (en re : Nat → Int32) : Prop := (∀ a, s ≤ a → a < e → en a = nI (E a) - 1) ∧ ∀ i, i < c → re i = nI (rl i)
theorem fl_m1 {m : Nat} (h : m ≤ 7) : nI m - 1 = -1 ↔ m = 0 := by
  cases m with
  | zero => exact ⟨fun _ => rfl, fun _ => by decide⟩
  | succ m =>
    rw [nI_pred]
    exact ⟨fun z => absurd z (ba_m1ne (by omega)), fun z => absurd z (by omega)⟩
theorem fl_eq {m h : Nat} (hm : m ≤ 7) (hh : h ≤ 6) : nI m - 1 = nI h ↔ m = h + 1 := by
  cases m with
  | zero => exact ⟨fun z => absurd (show nI h = -1 from z.symm.trans (by decide)) (ba_m1ne (by omega)), fun z => absurd z (by omega)⟩
  | succ m =>
    rw [nI_pred, nI_eq (by omega) (by omega)]
    omega
theorem x_reach {post : Int32 → SX → Prop} {f a h c : Nat} {E rl : Nat → Nat} (hn : n ≤ 120) (hF : pl_Fmt b n) (hf : f < pl_nf b) (hW : fl_WI b f c E rl) (hE : fl_EC (pl_s b f) (pl_e b f) c E rl xen xre) (hs : pl_s b f ≤ a) (ha : a ≤ 120) (hI : a < pl_e b f → pl_IS b f a) (hh : h ≤ 6)
    (k1 : ∀ (c' : Nat) (E' rl' : Nat → Nat) (xen xre : Nat → Int32), fl_WI b f c' E' rl' → fl_EC (pl_s b f) (pl_e b f) c' E' rl' xen xre → fl_XT c c' E E' rl rl' → a < pl_e b f → E' a = h + 1 → (∀ R : Nat → Nat → Prop, fl_SR b f R E → R a h → fl_SR b f R E') → post 1 (xrc, xbc, xfc, nI c', xra, xfi, xfp, xgn, xac, xlr, xhm, xrp, xrA, xrB, xrC, xby, xhd, xst, xbg, xco, xen, xre, xld, xim, xic, xih, xif, xop, xbp, xbq, xsc, xna, xhe, xlo, xsk))
    (k0 : (∀ R : Nat → Nat → Prop, (∀ i h h', R i h → R i h' → h = h') → fl_SR b f R E → a < pl_e b f → ¬ R a h) → post 0 (xrc, xbc, xfc, nI c, xra, xfi, xfp, xgn, xac, xlr, xhm, xrp, xrA, xrB, xrC, xby, xhd, xst, xbg, xco, xen, xre, xld, xim, xic, xih, xif, xop, xbp, xbq, xsc, xna, xhe, xlo, xsk)) : wpX_reach post (xrc, xbc, xfc, nI c, xra, xfi, xfp, xgn, xac, xlr, xhm, xrp, xrA, xrB, xrC, xby, xhd, xst, xbg, xco, xen, xre, xld, xim, xic, xih, xif, xop, xbp, xbq, xsc, xna, xhe, xlo, xsk) (nI a) (nI (pl_e b f)) (nI h) := by
  have he := pl_ef hF hf
  have hsl := pl_sl hF hf
  unfold wpX_reach
  dsimp only
  refine pk_lt a (pl_e b f) (fun g => ?_) fun g => k0 fun R _ _ z => absurd z (by omega)
  have e7 := hW.2.2.2.1 a
  rw [nI_clamp (by omega), hE.1 a hs g]
  refine ⟨vp_in_nI (by omega) (by omega), ?_⟩
  by_cases z : E a = 0
  · refine br_t ((fl_m1 e7).mpr z) ?_
    have hc : c < 40 := by
      have h1 := hW.2.2.2.2
      have h2 := fl_cn_lt z hs (pl_e b f - pl_s b f) (by omega)
      omega
    refine br_f (nI_ge (b := 40) hc (by decide)) ⟨vp_in_nI (by omega) (by omega), nm_e ⟨vp_in_nI hc (by omega), nm_r (show _ = upd xre c (nI a) by rw [nI_clamp (by omega)]) (nm_r (nI_1 c) ⟨vp_in_nI (by omega) (by omega), ?_⟩)⟩⟩
    rw [nI_clamp (by omega)]
    refine br_t pk_us (k1 (c + 1) (um_f E a (h + 1)) (um_f rl c a) _ _ ?_ ?_ ?_ g um_s ?_)
    · refine ⟨by omega, fun i hi => ?_, fun a' h1 h2 h3 => ?_, fun a' => ?_, ?_⟩
      · by_cases e : i = c
        · subst e; rw [um_s, um_s]; exact ⟨hs, hI g, by omega⟩
        · rw [um_n e]
          obtain ⟨q1, q2, q3⟩ := hW.2.1 i (by omega)
          refine ⟨q1, q2, ?_⟩
          by_cases e2 : rl i = a
          · rw [e2] at q3; omega
          · rw [um_n e2]; exact q3
      · by_cases e : a' = a
        · exact ⟨c, by omega, by rw [um_s, e]⟩
        · rw [um_n e] at h3
          obtain ⟨i, q1, q2⟩ := hW.2.2.1 a' h1 h2 h3
          exact ⟨i, by omega, by rw [um_n (by omega)]; exact q2⟩
      · by_cases e : a' = a
        · subst e; rw [um_s]; omega
        · rw [um_n e]; exact hW.2.2.2.1 a'
      · rw [fl_cn_in z hs (by omega) _ (by omega), ← hW.2.2.2.2]
    · refine ⟨fun a' h1 h2 => ?_, fun i hi => ?_⟩
      · by_cases e : a' = a
        · subst e; rw [pk_us, um_s, nI_pred]
        · rw [pk_un e, um_n e]; exact hE.1 a' h1 h2
      · by_cases e : i = c
        · subst e; rw [pk_us, um_s]
        · rw [pk_un e, um_n e]; exact hE.2 i (by omega)
    · refine ⟨by omega, fun a' h1 => ?_, fun i hi => um_n (by omega)⟩
      rw [um_n]
      intro e; subst e; omega
    · intro R h1 h2 a' h3 h4 h5
      by_cases e : a' = a
      · subst e; rw [um_s]; exact h2
      · rw [um_n e] at h5 ⊢; exact h1 a' h3 h4 h5
  · refine br_f (fun q => z ((fl_m1 e7).mp q)) ⟨vp_in_nI (by omega) (by omega), ?_⟩
    rw [nI_clamp (by omega), hE.1 a hs g]
    by_cases q : E a = h + 1
    · exact br_t ((fl_eq e7 hh).mpr q) (k1 c E rl xen xre hW hE fl_XT0 g q fun R h1 _ => h1)
    · refine br_f (fun q' => q ((fl_eq e7 hh).mp q')) (k0 fun R h1 h2 _ h3 => ?_)
      have := h1 a _ _ h3 (h2 a hs g (by omega))
      omega
end B6
