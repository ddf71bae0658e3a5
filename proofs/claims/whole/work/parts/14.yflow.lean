section B8
variable {r n : Nat} {pt M b : Nat → Nat} {yru ypl ynu yps yfi yac yre : Int32} {yme : Int64} {yrp yrq yrl yby yle ypr ywa ybp ybq ybo ysc yfn yat yhi ylo yen : Nat → Int32}
theorem y_takes {post : Int32 → Prop} {p f a : Nat} (hp : p ≤ 3) (hn : n ≤ 120) (hF : pl_Fmt (re_b M p) n) (hf : f < pl_nf (re_b M p)) (ha : a < pl_e (re_b M p) f) (hc : ¬ pl_bad (re_b M p) f a)
    (k : post (nI (pl_tk (re_b M p) a))) : wpY_takes post (yru, ypl, ynu, yps, yfi, yac, yre, yme, yrp, yrq, yrl, fun i => nI (M i), yle, ypr, ywa, ybp, ybq, ybo, ysc, yfn, yat, yhi, ylo, yen) (nI p) (nI (p * 120 + a)) := by
  have he := pl_ef hF hf
  have h4 := hF.2.2.2.1
  unfold wpY_takes
  dsimp only
  rw [y_rd hp (by omega)]
  refine ⟨vp_in_nI (by omega) (by omega), nm_e ?_⟩
  have h16 : re_b M p a ≤ 16 := by unfold pl_bad at hc; omega
  rcases c17 h16 with e | e | e | e | e | e | e | e | e | e | e | e | e | e | e | e | e
  · rw [show pl_tk (re_b M p) a = 0 by simp [pl_tk, e]] at k
    rw [e]
    exact br_f (by decide) (br_t (by decide) (br_f (by decide) (br_f (by decide) (br_f (by decide) (br_f (by decide) (br_f (by decide) (br_f (by decide) (br_f (by decide) (k)))))))))
  · rw [show pl_tk (re_b M p) a = 0 by simp [pl_tk, e]] at k
    rw [e]
    exact br_f (by decide) (br_t (by decide) (br_f (by decide) (br_f (by decide) (br_f (by decide) (br_f (by decide) (br_f (by decide) (br_f (by decide) (br_f (by decide) (k)))))))))
  · rw [show pl_tk (re_b M p) a = 1 by simp [pl_tk, e]] at k
    rw [e]
    exact br_f (by decide) (br_t (by decide) (br_t (by decide) k))
  · rw [show pl_tk (re_b M p) a = 2 by simp [pl_tk, e]] at k
    rw [e]
    exact br_f (by decide) (br_f (by decide) (br_f (by decide) k))
  · rw [show pl_tk (re_b M p) a = 2 by simp [pl_tk, e]] at k
    rw [e]
    exact br_f (by decide) (br_f (by decide) (br_f (by decide) k))
  · rw [show pl_tk (re_b M p) a = 2 by simp [pl_tk, e]] at k
    rw [e]
    exact br_f (by decide) (br_f (by decide) (br_f (by decide) k))
  · rw [show pl_tk (re_b M p) a = 2 by simp [pl_tk, e]] at k
    rw [e]
    exact br_f (by decide) (br_f (by decide) (br_f (by decide) k))
  · rw [show pl_tk (re_b M p) a = 2 by simp [pl_tk, e]] at k
    rw [e]
    exact br_f (by decide) (br_f (by decide) (br_f (by decide) k))
  · rw [show pl_tk (re_b M p) a = 1 by simp [pl_tk, e]] at k
    rw [e]
    exact br_f (by decide) (br_f (by decide) (br_t (by decide) (br_f (by decide) (br_t (by decide) k))))
  · rw [show pl_tk (re_b M p) a = 1 by simp [pl_tk, e]] at k
    rw [e]
    exact br_f (by decide) (br_f (by decide) (br_t (by decide) (br_f (by decide) (br_f (by decide) (br_t (by decide) k)))))
  · rw [show pl_tk (re_b M p) a = 0 by simp [pl_tk, e]] at k
    rw [e]
    exact br_f (by decide) (br_f (by decide) (br_t (by decide) (br_f (by decide) (br_f (by decide) (br_f (by decide) (br_f (by decide) (br_f (by decide) (br_f (by decide) (br_f (by decide) (k))))))))))
  · rw [show pl_tk (re_b M p) a = 1 by simp [pl_tk, e]] at k
    rw [e]
    exact br_f (by decide) (br_f (by decide) (br_t (by decide) (br_f (by decide) (br_f (by decide) (br_f (by decide) (br_t (by decide) k))))))
  · have hg := pl_call hc e
    have hw2 : a + 1 < pl_e (re_b M p) f := pl_wide hc (pl_sz2.mpr (by omega))
    have hgh := pl_hf hF hg
    have hge := pl_ef hF hg
    rw [show pl_tk (re_b M p) a = re_b M p (pl_hd (re_b M p) (re_b M p (a + 1))) by simp [pl_tk, e]] at k
    rw [e, show nI (p * 120 + a) + 1 = nI (p * 120 + (a + 1)) from nI_1 _, y_rd hp (by omega)]
    refine br_t (by decide) ⟨vp_in_nI (by omega) (by omega), y_head hp (by omega) hF.1 (fun i hi => ?_) ⟨vp_in_nI (by omega) (by omega), ?_⟩⟩
    · have := pl_hd_le (re_b M p) i (re_b M p (a + 1)) (by omega)
      omega
    · rw [y_rd hp (by omega)]
      exact k
  · rw [show pl_tk (re_b M p) a = 1 by simp [pl_tk, e]] at k
    rw [e]
    exact br_f (by decide) (br_f (by decide) (br_t (by decide) (br_f (by decide) (br_f (by decide) (br_f (by decide) (br_f (by decide) (br_t (by decide) k)))))))
  · rw [show pl_tk (re_b M p) a = 0 by simp [pl_tk, e]] at k
    rw [e]
    exact br_f (by decide) (br_f (by decide) (br_t (by decide) (br_f (by decide) (br_f (by decide) (br_f (by decide) (br_f (by decide) (br_f (by decide) (br_f (by decide) (br_f (by decide) (k))))))))))
  · rw [show pl_tk (re_b M p) a = 1 by simp [pl_tk, e]] at k
    rw [e]
    exact br_f (by decide) (br_f (by decide) (br_t (by decide) (br_f (by decide) (br_f (by decide) (br_f (by decide) (br_f (by decide) (br_f (by decide) (br_t (by decide) k))))))))
  · rw [show pl_tk (re_b M p) a = 1 by simp [pl_tk, e]] at k
    rw [e]
    exact br_f (by decide) (br_f (by decide) (br_t (by decide) (br_f (by decide) (br_f (by decide) (br_f (by decide) (br_f (by decide) (br_f (by decide) (br_f (by decide) (br_t (by decide) k)))))))))
theorem y_gives {post : Int32 → Prop} {c : Nat} (hc : c ≤ 16) (k : post (nI (pl_gv c))) : wpY_gives post (nI c) := by
  rcases c17 hc with rfl | rfl | rfl | rfl | rfl | rfl | rfl | rfl | rfl | rfl | rfl | rfl | rfl | rfl | rfl | rfl | rfl
  · exact br_f (by decide) (br_t (by decide) k)
  · exact br_f (by decide) (br_t (by decide) k)
  · exact br_f (by decide) (br_f (by decide) (br_t (by decide) (br_t (by decide) k)))
  · exact br_f (by decide) (br_f (by decide) (br_f (by decide) (br_t (by decide) k)))
  · exact br_f (by decide) (br_f (by decide) (br_f (by decide) (br_t (by decide) k)))
  · exact br_f (by decide) (br_f (by decide) (br_f (by decide) (br_t (by decide) k)))
  · exact br_f (by decide) (br_f (by decide) (br_f (by decide) (br_t (by decide) k)))
  · exact br_f (by decide) (br_f (by decide) (br_f (by decide) (br_t (by decide) k)))
  · exact br_t (by decide) k
  · exact br_f (by decide) (br_f (by decide) (br_f (by decide) (br_f (by decide) (br_t (by decide) k))))
  · exact br_f (by decide) (br_f (by decide) (br_f (by decide) (br_f (by decide) (br_t (by decide) k))))
  · exact br_f (by decide) (br_f (by decide) (br_f (by decide) (br_f (by decide) (br_t (by decide) k))))
  · exact br_f (by decide) (br_f (by decide) (br_f (by decide) (br_f (by decide) (br_f (by decide) (br_f (by decide) k)))))
  · exact br_f (by decide) (br_f (by decide) (br_f (by decide) (br_f (by decide) (br_f (by decide) (br_f (by decide) k)))))
  · exact br_f (by decide) (br_f (by decide) (br_f (by decide) (br_f (by decide) (br_f (by decide) (br_f (by decide) k)))))
  · exact br_f (by decide) (br_f (by decide) (br_f (by decide) (br_f (by decide) (br_f (by decide) (br_t (by decide) k)))))
  · exact br_f (by decide) (br_f (by decide) (br_f (by decide) (br_f (by decide) (br_f (by decide) (br_t (by decide) k)))))
end B8
section B9
variable {r n : Nat} {pt M b : Nat → Nat} {yru ypl ynu yps yfi yac yre : Int32} {yme : Int64} {yrp yrq yrl yby yle ypr ywa ybp ybq ybo ysc yfn yat yhi ylo yen : Nat → Int32}
/-! the reference's ways: k = (a - s) * 7 + h -/
def wa_v (w : Nat → Int32) : Nat → Nat := fun k => if w k = 0 then 0 else 1
def wa_c (w : Nat → Int32) : Nat := fl_cn (wa_v w) 0 280
def wa_J (b : Nat → Nat) (f : Nat) (w : Nat → Int32) : Prop := ∀ k, k < 280 → ¬ w k = 0 → pl_IS b f (pl_s b f + k / 7)
def wa_S (b : Nat → Nat) (f : Nat) (R : Nat → Nat → Prop) (w : Nat → Int32) : Prop := ∀ k, k < 280 → ¬ w k = 0 → R (pl_s b f + k / 7) (k % 7)
def wa_Q (b : Nat → Nat) (f : Nat) (w0 : Nat → Int32) (nw : Nat) (w : Nat → Int32) : Prop :=
  wa_J b f w ∧ (∀ k, ¬ w0 k = 0 → ¬ w k = 0) ∧ (nw = 0 → w = w0) ∧ (nw = 1 → wa_c w0 < wa_c w) ∧ nw ≤ 1 ∧ ∀ R, pl_Good b f R → wa_S b f R w0 → wa_S b f R w
def wa_h (b : Nat → Nat) (f k : Nat) : Nat := k % 7 - pl_tk b (pl_s b f + k / 7) + pl_gv (b (pl_s b f + k / 7))
/-- way k is in order -/
def wa_O (b : Nat → Nat) (f : Nat) (w : Nat → Int32) (k : Nat) : Prop :=
  (∀ o, o < 7 → o ≠ k % 7 → w (k - k % 7 + o) = 0) ∧ pl_tk b (pl_s b f + k / 7) ≤ k % 7 ∧ wa_h b f k ≤ 6 ∧
  (b (pl_s b f + k / 7) ≠ 10 → b (pl_s b f + k / 7) ≠ 16 → pl_s b f + k / 7 + pl_sz (b (pl_s b f + k / 7)) < pl_e b f ∧ ¬ w ((k / 7 + pl_sz (b (pl_s b f + k / 7))) * 7 + wa_h b f k) = 0) ∧
  ((b (pl_s b f + k / 7) = 10 ∨ b (pl_s b f + k / 7) = 11) → ∃ j : Nat, pl_tg b (pl_s b f + k / 7) = ((pl_s b f + j : Nat) : Int) ∧ pl_s b f + j < pl_e b f ∧ ¬ w (j * 7 + wa_h b f k) = 0)
theorem wa_cup {w : Nat → Int32} {k : Nat} (h : w k = 0) (hk : k < 280) : wa_c (upd w k 1) = wa_c w + 1 := by
  have e : wa_v (upd w k 1) = um_f (wa_v w) k 1 := by
    funext j
    unfold wa_v
    by_cases e : j = k
    · subst e; rw [pk_us, um_s, if_neg ba_10]
    · rw [pk_un e, um_n e]
  unfold wa_c
  rw [e, fl_cn_in (by unfold wa_v; rw [if_pos h]) (by omega) (by omega) _ (by omega)]
theorem wa_cle (w : Nat → Int32) : wa_c w ≤ 280 := fl_cn_le _ _ _
theorem wa_o00 : ((0 : Int32) ||| 0) = 0 := by decide
theorem y_way {post : Int32 → SY → Prop} {f k nw : Nat} {w0 : Nat → Int32} (hk : k < 280) (hQ : wa_Q b f w0 nw ywa) (hI : pl_IS b f (pl_s b f + k / 7)) (hR : ∀ R, pl_Good b f R → wa_S b f R w0 → R (pl_s b f + k / 7) (k % 7))
    (kk : ∀ (v : Int32) (nw' : Nat) (ywa' : Nat → Int32), nI nw ||| v = nI nw' → wa_Q b f w0 nw' ywa' → ¬ ywa' k = 0 → (nw' = 0 → nw = 0) → post v (yru, ypl, ynu, yps, yfi, yac, yre, yme, yrp, yrq, yrl, yby, yle, ypr, ywa', ybp, ybq, ybo, ysc, yfn, yat, yhi, ylo, yen)) : wpY_way post (yru, ypl, ynu, yps, yfi, yac, yre, yme, yrp, yrq, yrl, yby, yle, ypr, ywa, ybp, ybq, ybo, ysc, yfn, yat, yhi, ylo, yen) (nI k) := by
  unfold wpY_way
  dsimp only
  rw [nI_clamp (by omega), ba_vb1]
  obtain ⟨q1, q2, q3, q4, q5, q6⟩ := hQ
  refine ⟨vp_in_nI hk (by omega), br_c (fun z => ⟨vp_in_nI hk (by omega), nm_e ?_⟩) fun z => ?_⟩
  · refine kk 1 1 _ ?_ ⟨fun j hj hz => ?_, fun j hz => ?_, fun z => absurd z (by omega), fun _ => ?_, by omega, fun R hG hS j hj hz => ?_⟩ (by rw [pk_us]; exact ba_10) fun z => absurd z (by omega)
    · rcases (show nw = 0 ∨ nw = 1 by omega) with rfl | rfl <;> decide
    · by_cases e : j = k
      · subst e; exact hI
      · rw [pk_un e] at hz; exact q1 j hj hz
    · by_cases e : j = k
      · subst e; rw [pk_us]; exact ba_10
      · rw [pk_un e]; exact q2 j hz
    · rw [wa_cup z hk]
      rcases (show nw = 0 ∨ nw = 1 by omega) with h | h
      · rw [q3 h]; omega
      · have := q4 h; omega
    · by_cases e : j = k
      · subst e; exact hR R hG hS
      · rw [pk_un e] at hz; exact q6 R hG hS j hj hz
  · refine kk 0 nw _ ?_ ⟨q1, q2, q3, q4, q5, q6⟩ z fun z => z
    rcases (show nw = 0 ∨ nw = 1 by omega) with rfl | rfl <;> decide
/-- what a walk must give -/
def wa_K (post : Int32 → SY → Prop) (b : Nat → Nat) (f : Nat) (w0 : Nat → Int32) (g : (Nat → Int32) → SY) : Prop :=
  ((∀ R, pl_Good b f R → ¬ wa_S b f R w0) → ∀ w, post (-1) (g w)) ∧
  ((∀ k, k < 280 → ¬ w0 k = 0 → wa_O b f w0 k) → post 0 (g w0)) ∧
  (∀ w, wa_J b f w → (∀ k, ¬ w0 k = 0 → ¬ w k = 0) → wa_c w0 < wa_c w → (∀ R, pl_Good b f R → wa_S b f R w0 → wa_S b f R w) → post 1 (g w))
theorem y_walk {post : Int32 → SY → Prop} {f : Nat} {w0 : Nat → Int32} (hn : n ≤ 120) (hF : pl_Fmt (re_b M 3) n) (hf : f < pl_nf (re_b M 3)) (hv : ∀ i, M i < 256) (hC : ∀ i, pl_IS (re_b M 3) f i → ¬ pl_bad (re_b M 3) f i) (hJ : ∀ i, pl_IS (re_b M 3) f i → pl_jok (re_b M 3) f i)
    (hw : wa_J (re_b M 3) f w0) (K : wa_K post (re_b M 3) f w0 (fun ywa => (yru, ypl, ynu, yps, yfi, yac, yre, yme, yrp, yrq, yrl, fun i => nI (M i), yle, ypr, ywa, ybp, ybq, ybo, ysc, yfn, yat, yhi, ylo, yen))) : wpY_walk post (yru, ypl, ynu, yps, yfi, yac, yre, yme, yrp, yrq, yrl, fun i => nI (M i), yle, ypr, w0, ybp, ybq, ybo, ysc, yfn, yat, yhi, ylo, yen) (nI f) := by
  have he := pl_ef hF hf
  have hh := pl_hf hF hf
  have hs : pl_s (re_b M 3) f < pl_e (re_b M 3) f := hh
  have hsl := pl_sl hF hf
  have h4 := hF.2.2.2.1
  have hi : ∀ i, i < f + 1 → pl_hd (re_b M 3) i + 2 < 120 := by
    intro i h
    have := pl_hd_le (re_b M 3) i f (by omega)
    omega
  unfold wpY_walk
  dsimp only
  refine y_codeStart (p := 3) (by omega) (by omega) hF.1 (fun i h => hi i (by omega)) ?_
  refine y_codeEnd (p := 3) (by omega) (by omega) hF.1 hi ⟨281, ?_⟩
  have L : ∀ d k nw, ∀ ywa : Nat → Int32, k + d = 280 → wa_Q (re_b M 3) f w0 nw ywa → (nw = 0 → ∀ j, j < k → ¬ w0 j = 0 → wa_O (re_b M 3) f w0 j) →
      wY_walk_20 post (nI (3 * 120 + pl_s (re_b M 3) f)) (nI (3 * 120 + pl_e (re_b M 3) f)) (d + 1) (nI nw) (nI k) yru ypl ynu yps yfi yac yre yme yrp yrq yrl (fun i => nI (M i)) yle ypr ywa ybp ybq ybo ysc yfn yat yhi ylo yen := by
    intro d
    induction d with
    | zero =>
      intro k nw ywa hk hQ hO
      refine br_t (nI_le (a := 280) (by omega) (by omega)) ?_
      rcases (show nw = 0 ∨ nw = 1 by have := hQ.2.2.2.2.1; omega) with rfl | rfl
      · rw [hQ.2.2.1 rfl]
        exact K.2.1 fun j hj => hO rfl j (by omega)
      · exact K.2.2 ywa hQ.1 hQ.2.1 (hQ.2.2.2.1 rfl) hQ.2.2.2.2.2
    | succ d ih =>
      intro k nw ywa hk hQ hO
      refine br_f (nI_ge (b := 280) (by omega) (by decide)) ⟨vp_in_nI (by omega) (by omega), ?_⟩
      rw [nI_clamp (by omega)]
      refine br_c (fun z => nm_r (nI_1 k) (ih (k + 1) nw ywa (by omega) hQ fun h j hj hz => ?_)) fun z => ?_
      · by_cases e : j = k
        · subst e; rw [hQ.2.2.1 h] at z; exact absurd z hz
        · exact hO h j (by omega) hz
      have hk7 : k / 7 < 40 := by omega
      have hm7 : k % 7 < 7 := Nat.mod_lt _ (by omega)
      have hdm : k = k / 7 * 7 + k % 7 := by omega
      have is := hQ.1 k (by omega) z
      have la := is.1
      have bad := hC _ is
      have jok := hJ _ is
      have vb := y_hvb hv 3 (pl_s (re_b M 3) f + k / 7)
      have c16 : re_b M 3 (pl_s (re_b M 3) f + k / 7) ≤ 16 := by unfold pl_bad at bad; omega
      have t2 := pl_tk2 hF bad
      have g2 := pl_gv2 (re_b M 3 (pl_s (re_b M 3) f + k / 7))
      have nx := pl_nx bad la
      have szp := pl_sz_pos (re_b M 3 (pl_s (re_b M 3) f + k / 7))
      have wdd := fun q => pl_wide bad q
      have Ra : ∀ R, pl_Good (re_b M 3) f R → wa_S (re_b M 3) f R w0 → R (pl_s (re_b M 3) f + k / 7) (k % 7) := fun R hG hS => hQ.2.2.2.2.2 R hG hS k (by omega) z
      have B : (∀ R, pl_Good (re_b M 3) f R → wa_S (re_b M 3) f R w0 → False) → post (-1) (yru, ypl, ynu, yps, yfi, yac, yre, yme, yrp, yrq, yrl, fun i => nI (M i), yle, ypr, ywa, ybp, ybq, ybo, ysc, yfn, yat, yhi, ylo, yen) := fun q => K.1 (fun R hG hS => q R hG hS) ywa
      refine ⟨by decide, nm_r (e' := nI (3 * 120 + (pl_s (re_b M 3) f + k / 7))) ?_ ⟨by decide, nm_r (e' := nI (k % 7)) (pk_rem (d := 7) (by omega) (by omega) (by omega)) ⟨vp_in_nI (by omega) (by omega), nm_r (e' := nI (re_b M 3 (pl_s (re_b M 3) f + k / 7))) (y_rd (p := 3) (by omega) (by omega)) ?_⟩⟩⟩
      · rw [show nI k / 7 = nI (k / 7) from pk_div (d := 7) (by omega) (by omega) (by omega), nI_add]
        exact congrArg nI (by omega)
      refine y_takes (p := 3) (by omega) hn hF hf la bad ?_
      refine y_gives c16 ⟨8, ?_⟩
      have hr : wa_h (re_b M 3) f k = k % 7 - pl_tk (re_b M 3) (pl_s (re_b M 3) f + k / 7) + pl_gv (re_b M 3 (pl_s (re_b M 3) f + k / 7)) := rfl
      -- the end of the body
      have NX : ∀ (nw' : Nat) (ywa' : Nat → Int32), wa_Q (re_b M 3) f w0 nw' ywa' → (nw' = 0 → wa_O (re_b M 3) f w0 k) → (nw' = 0 → nw = 0) → wY_walk_20 post (nI (3 * 120 + pl_s (re_b M 3) f)) (nI (3 * 120 + pl_e (re_b M 3) f)) (d + 1) (nI nw') (nI (k + 1)) yru ypl ynu yps yfi yac yre yme yrp yrq yrl (fun i => nI (M i)) yle ypr ywa' ybp ybq ybo ysc yfn yat yhi ylo yen := by
        intro nw' ywa' hQ' hO' hn'
        refine ih (k + 1) nw' ywa' (by omega) hQ' fun h j hj hz => ?_
        by_cases e : j = k
        · subst e; exact hO' h
        · exact hO (hn' h) j (by omega) hz
      generalize ea : pl_s (re_b M 3) f + k / 7 = a at *
      have PT : pl_s (re_b M 3) f + k / 7 = a := ea
      have FJ : ∀ (nw1 : Nat) (ywa1 : Nat → Int32), wa_Q (re_b M 3) f w0 nw1 ywa1 → (nw1 = 0 → nw = 0) → (∀ o, o < 7 → o ≠ k % 7 → ywa (k - k % 7 + o) = 0) → pl_tk (re_b M 3) a ≤ k % 7 → wa_h (re_b M 3) f k ≤ 6 →
          (nw1 = 0 → re_b M 3 a ≠ 10 → re_b M 3 a ≠ 16 → a + pl_sz (re_b M 3 a) < pl_e (re_b M 3) f ∧ ¬ w0 ((k / 7 + pl_sz (re_b M 3 a)) * 7 + wa_h (re_b M 3) f k) = 0) →
          wY_walk_228 post (wY_walk_20 post (nI (3 * 120 + pl_s (re_b M 3) f)) (nI (3 * 120 + pl_e (re_b M 3) f)) (d + 1)) (nI (3 * 120 + pl_s (re_b M 3) f)) (nI (3 * 120 + pl_e (re_b M 3) f)) (nI nw1) (nI k) (nI (3 * 120 + a)) (nI (re_b M 3 a)) (nI (wa_h (re_b M 3) f k)) yru ypl ynu yps yfi yac yre yme yrp yrq yrl (fun i => nI (M i)) yle ypr ywa1 ybp ybq ybo ysc yfn yat yhi ylo yen := by
        intro nw1 ywa1 hQ1 hn1 hu ht h6 hnx
        have TG : (re_b M 3 a = 10 ∨ re_b M 3 a = 11) → wY_walk_242 post (wY_walk_20 post (nI (3 * 120 + pl_s (re_b M 3) f)) (nI (3 * 120 + pl_e (re_b M 3) f)) (d + 1)) (nI (3 * 120 + pl_s (re_b M 3) f)) (nI (3 * 120 + pl_e (re_b M 3) f)) (nI nw1) (nI k) (nI (3 * 120 + a)) (nI (wa_h (re_b M 3) f k)) yru ypl ynu yps yfi yac yre yme yrp yrq yrl (fun i => nI (M i)) yle ypr ywa1 ybp ybq ybo ysc yfn yat yhi ylo yen := by
          intro c
          obtain ⟨j', ej, sj, ij⟩ := jok c
          have lj := ij.1
          obtain ⟨j, rfl⟩ : ∃ j, j' = pl_s (re_b M 3) f + j := ⟨j' - pl_s (re_b M 3) f, by omega⟩
          have h1 := wdd (pl_sz2.mpr (by omega))
          refine y_target (p := 3) (by omega) (by omega) hv fun T hT => ?_
          have eT : T = nI (3 * 120 + (pl_s (re_b M 3) f + j)) := tg_n (by rw [hT, ej]; omega) (by omega)
          subst eT
          have eI : (nI (3 * 120 + (pl_s (re_b M 3) f + j)) - nI (3 * 120 + pl_s (re_b M 3) f)) * 7 + nI (wa_h (re_b M 3) f k) = nI (j * 7 + wa_h (re_b M 3) f k) := by
            rw [pk_sub (by omega), show nI (3 * 120 + (pl_s (re_b M 3) f + j) - (3 * 120 + pl_s (re_b M 3) f)) * 7 = nI ((3 * 120 + (pl_s (re_b M 3) f + j) - (3 * 120 + pl_s (re_b M 3) f)) * 7) from pk_mul _ 7, nI_add]
            exact congrArg nI (by omega)
          rw [eI]
          have d1 : (j * 7 + wa_h (re_b M 3) f k) / 7 = j := by omega
          have d2 : (j * 7 + wa_h (re_b M 3) f k) % 7 = wa_h (re_b M 3) f k := by omega
          refine y_way (b := re_b M 3) (f := f) (w0 := w0) (nw := nw1) (by omega) hQ1 (by rw [d1]; exact ij) (fun R hG hS => ?_) fun v nw2 ywa2 ev hQ2 hz2 hn2 => ?_
          · rw [d1, d2, hr]
            obtain ⟨j2, p1, p2, p3, p4⟩ := (hG.2.2 a (k % 7) (Ra R hG hS)).2.2.1 c
            have : j2 = pl_s (re_b M 3) f + j := by omega
            subst this
            exact p4
          · refine nm_r ev (nm_r (nI_1 k) (NX nw2 ywa2 hQ2 (fun h => ?_) fun h => hn1 (hn2 h)))
            have w1 : ywa = w0 := hQ.2.2.1 (hn1 (hn2 h))
            have w2 : ywa2 = w0 := hQ2.2.2.1 h
            unfold wa_O
            rw [PT]
            refine ⟨by rw [← w1]; exact hu, ht, h6, fun c1 c2 => hnx (hn2 h) c1 c2, fun _ => ⟨j, ej, lj, by rw [← w2]; exact hz2⟩⟩
        refine pk_eq (re_b M 3 a) 10 (fun c => TG (Or.inl c)) fun c1 => pk_eq (re_b M 3 a) 11 (fun c => TG (Or.inr c)) fun c2 => nm_r (nI_1 k) (NX nw1 ywa1 hQ1 (fun h => ?_) hn1)
        have w1 : ywa = w0 := hQ.2.2.1 (hn1 h)
        unfold wa_O
        rw [PT]
        exact ⟨by rw [← w1]; exact hu, ht, h6, fun c1 c2 => hnx h c1 c2, fun c => absurd c (by omega)⟩
      have BD : (∀ o, o < 7 → o ≠ k % 7 → ywa (k - k % 7 + o) = 0) → pl_tk (re_b M 3) a ≤ k % 7 → wa_h (re_b M 3) f k ≤ 6 → ∀ z0, z0 = nI (pl_sz (re_b M 3 a)) →
          wY_walk_170 post (wY_walk_20 post (nI (3 * 120 + pl_s (re_b M 3) f)) (nI (3 * 120 + pl_e (re_b M 3) f)) (d + 1)) (nI (3 * 120 + pl_s (re_b M 3) f)) (nI (3 * 120 + pl_e (re_b M 3) f)) (nI nw) (nI k) (nI (3 * 120 + a)) (nI (re_b M 3 a)) (nI (wa_h (re_b M 3) f k)) z0 (nI (3 * 120 + a)) yru ypl ynu yps yfi yac yre yme yrp yrq yrl (fun i => nI (M i)) yle ypr ywa ybp ybq ybo ysc yfn yat yhi ylo yen := by
        intro hu ht h6 z0 ez
        subst ez
        refine nm_r (e' := nI (3 * 120 + (a + pl_sz (re_b M 3 a)))) (by rw [nI_add]; exact congrArg nI (by omega)) ?_
        by_cases c10 : re_b M 3 a = 10
        · have e10 : nI (re_b M 3 a) = 10 := by rw [c10]; rfl
          exact br_t e10 (br_t e10 (FJ nw ywa hQ (fun h => h) hu ht h6 fun _ q _ => absurd c10 q))
        have n10 : ¬ nI (re_b M 3 a) = 10 := ba_ne (b := 10) (by omega) (by omega) c10
        by_cases c16' : re_b M 3 a = 16
        · have e16 : nI (re_b M 3 a) = 16 := by rw [c16']; rfl
          exact br_f n10 (br_t e16 (br_f n10 (br_t e16 (FJ nw ywa hQ (fun h => h) hu ht h6 fun _ _ q => absurd c16' q))))
        have n16 : ¬ nI (re_b M 3 a) = 16 := ba_ne (b := 16) (by omega) (by omega) c16'
        refine br_f n10 (br_f n16 (pk_lt (3 * 120 + (a + pl_sz (re_b M 3 a))) (3 * 120 + pl_e (re_b M 3) f) (fun ln => br_f n10 (br_f n16 ?_)) fun ln => B fun R hG hS => ?_))
        · have eI : (nI (3 * 120 + (a + pl_sz (re_b M 3 a))) - nI (3 * 120 + pl_s (re_b M 3) f)) * 7 + nI (wa_h (re_b M 3) f k) = nI ((k / 7 + pl_sz (re_b M 3 a)) * 7 + wa_h (re_b M 3) f k) := by
            rw [pk_sub (by omega), show nI (3 * 120 + (a + pl_sz (re_b M 3 a)) - (3 * 120 + pl_s (re_b M 3) f)) * 7 = nI ((3 * 120 + (a + pl_sz (re_b M 3 a)) - (3 * 120 + pl_s (re_b M 3) f)) * 7) from pk_mul _ 7, nI_add]
            exact congrArg nI (by omega)
          rw [eI]
          have d1 : ((k / 7 + pl_sz (re_b M 3 a)) * 7 + wa_h (re_b M 3) f k) / 7 = k / 7 + pl_sz (re_b M 3 a) := by omega
          have d2 : ((k / 7 + pl_sz (re_b M 3 a)) * 7 + wa_h (re_b M 3) f k) % 7 = wa_h (re_b M 3) f k := by omega
          have d3 : pl_s (re_b M 3) f + (k / 7 + pl_sz (re_b M 3 a)) = a + pl_sz (re_b M 3 a) := by omega
          refine y_way (b := re_b M 3) (f := f) (w0 := w0) (nw := nw) (by omega) hQ (by rw [d1, d3]; exact pl_ISn is (by omega)) (fun R hG hS => ?_) fun v nw2 ywa2 ev hQ2 hz2 hn2 => ?_
          · rw [d1, d2, d3, hr]
            exact ((hG.2.2 a (k % 7) (Ra R hG hS)).2.2.2 c10 c16').2
          · refine nm_r ev (FJ nw2 ywa2 hQ2 hn2 hu ht h6 fun h _ _ => ⟨by omega, ?_⟩)
            have w2 : ywa2 = w0 := hQ2.2.2.1 h
            rw [← w2]; exact hz2
        · have := ((hG.2.2 a (k % 7) (Ra R hG hS)).2.2.2 c10 c16').1
          omega
      have L85 : ∀ d' x, x + d' = 7 → (∀ o, o < x → o ≠ k % 7 → ywa (k - k % 7 + o) = 0) →
          wY_walk_85 post (wY_walk_20 post (nI (3 * 120 + pl_s (re_b M 3) f)) (nI (3 * 120 + pl_e (re_b M 3) f)) (d + 1)) (nI (3 * 120 + pl_s (re_b M 3) f)) (nI (3 * 120 + pl_e (re_b M 3) f)) (nI nw) (nI k) (nI (3 * 120 + a)) (nI (k % 7)) (nI (re_b M 3 a)) (nI (pl_tk (re_b M 3) a)) (nI (pl_gv (re_b M 3 a))) yru ypl ynu yps yfi yac yre yme yrp yrq yrl (fun i => nI (M i)) yle ypr ywa ybp ybq ybo ysc yfn yat yhi ylo yen (d' + 1) (nI x) := by
        intro d'
        induction d' with
        | zero =>
          intro x hx hu
          have : x = 7 := by omega
          subst this
          refine br_t (nI_le (a := 7) (b := 7) (by omega) (by omega)) ?_
          by_cases z1 : k % 7 < pl_tk (re_b M 3) a
          · refine br_t (nI_lt z1 (by omega)) (B fun R hG hS => ?_)
            have := (hG.2.2 a (k % 7) (Ra R hG hS)).1
            omega
          have ex : nI (k % 7) - nI (pl_tk (re_b M 3) a) + nI (pl_gv (re_b M 3 a)) = nI (wa_h (re_b M 3) f k) := by rw [pk_sub (by omega), nI_add, hr]
          refine br_f (nI_nlt (by omega) (by omega)) ?_
          rw [ex]
          refine pk_le (wa_h (re_b M 3) f k) 6 (fun z2 => nm_e ?_) (fun z2 => B fun R hG hS => ?_) rfl rfl (by omega)
          · exact y_wide vb (fun w => br_f ba_10 (BD hu (by omega) z2 2 (by rw [w]; rfl))) fun w => br_t rfl (BD hu (by omega) z2 1 (by rw [w]; rfl))
          · have := (hG.2.2 a (k % 7) (Ra R hG hS)).2.1
            omega
        | succ d' ih' =>
          intro x hx hu
          refine br_f (nI_ge (b := 7) (by omega) (by decide)) ?_
          have eI : nI k - nI (k % 7) + nI x = nI (k - k % 7 + x) := by rw [pk_sub (by omega), nI_add]
          rw [eI, nI_clamp (by omega)]
          refine pk_eq x (k % 7) (fun e => nm_r (nI_1 x) (ih' (x + 1) (by omega) fun o h1 h2 => ?_)) fun e => ⟨vp_in_nI (by omega) (by omega), br_c (fun z' => nm_r (nI_1 x) (ih' (x + 1) (by omega) fun o h1 h2 => ?_)) fun z' => B fun R hG hS => ?_⟩
          · exact hu o (by omega) h2
          · by_cases eo : o = x
            · subst eo; exact z'
            · exact hu o (by omega) h2
          · have h1 := hQ.2.2.2.2.2 R hG hS (k - k % 7 + x) (by omega) z'
            rw [show (k - k % 7 + x) / 7 = k / 7 by omega, show (k - k % 7 + x) % 7 = x by omega, PT] at h1
            have := hG.2.1 a _ _ h1 (Ra R hG hS)
            omega
      exact L85 7 0 rfl fun o h => absurd h (by omega)
  exact L 280 0 0 w0 rfl ⟨hw, fun _ h => h, fun _ => rfl, fun h => absurd h (by omega), by omega, fun R _ h => h⟩ fun _ j hj => absurd hj (by omega)
end B9
