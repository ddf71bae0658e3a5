section A9
variable {r n : Nat} {pt M b : Nat → Nat} {yru ypl ynu yps yfi yac yre : Int32} {yme : Int64} {yrp yrq yrl yby yle ypr ywa ybp ybq ybo ysc yfn yat yhi ylo yen : Nat → Int32}
/-! the reference's looks at the bytes: p the plugin (3: the one to come), b its bytes -/
theorem y_by {p i : Nat} (hp : p ≤ 3) (hi : i < 120) : (fun i => nI (M i)) (nI (p * 120 + i)).toNatClampNeg = nI (re_b M p i) := by
  rw [nI_clamp (by omega), re_bi hi]
theorem y_b3 {M : Nat → Nat} {i : Nat} (h : i < 120) : M (360 + i) = re_b M 3 i := (re_bi (p := 3) h).symm
theorem y_imports {post : Int32 → Prop} {p : Nat} (hp : p ≤ 3) (k : post (nI (re_b M p 1))) : wpY_imports post (yru, ypl, ynu, yps, yfi, yac, yre, yme, yrp, yrq, yrl, fun i => nI (M i), yle, ypr, ywa, ybp, ybq, ybo, ysc, yfn, yat, yhi, ylo, yen) (nI p) := by
  unfold wpY_imports
  dsimp only
  have e : nI p * 120 + 1 = nI (p * 120 + 1) := by rw [show nI p * 120 = nI (p * 120) from pk_mul p 120, nI_1]
  rw [e, nI_clamp (by omega)]
  rw [re_bi (by omega)] at k
  exact ⟨vp_in_nI (by omega) (by omega), k⟩
theorem y_functions {post : Int32 → Prop} {p : Nat} (hp : p ≤ 3) (h4 : re_b M p 1 ≤ 4) (k : post (nI (pl_nf (re_b M p)))) : wpY_functions post (yru, ypl, ynu, yps, yfi, yac, yre, yme, yrp, yrq, yrl, fun i => nI (M i), yle, ypr, ywa, ybp, ybq, ybo, ysc, yfn, yat, yhi, ylo, yen) (nI p) := by
  unfold wpY_functions
  dsimp only
  have m : nI p * 120 = nI (p * 120) := pk_mul p 120
  have e : nI p * 120 + 1 = nI (p * 120 + 1) := by rw [m, nI_1]
  have e1 : re_b M p 1 = M (p * 120 + 1) := re_bi (by omega)
  have e2 : nI p * 120 + 2 + nI (re_b M p 1) * 3 = nI (p * 120 + (2 + 3 * re_b M p 1)) := by
    rw [m, show nI (p * 120) + 2 = nI (p * 120 + 2) from nI_add _ 2, show nI (re_b M p 1) * 3 = nI (re_b M p 1 * 3) from pk_mul _ 3, nI_add]
    exact congrArg nI (by omega)
  rw [e, nI_clamp (by omega), ← e1, e2, nI_clamp (by omega)]
  unfold pl_nf at k
  rw [re_bi (by omega)] at k
  exact ⟨vp_in_nI (by omega) (by omega), vp_in_nI (by omega) (by omega), k⟩
theorem y_head {post : Int32 → Prop} {p f : Nat} (hp : p ≤ 3) (hf : f ≤ 4) (h4 : re_b M p 1 ≤ 4) (hi : ∀ i, i < f → pl_hd (re_b M p) i + 2 < 120) (k : post (nI (p * 120 + pl_hd (re_b M p) f))) :
    wpY_head post (yru, ypl, ynu, yps, yfi, yac, yre, yme, yrp, yrq, yrl, fun i => nI (M i), yle, ypr, ywa, ybp, ybq, ybo, ysc, yfn, yat, yhi, ylo, yen) (nI p) (nI f) := by
  unfold wpY_head
  dsimp only
  refine y_imports hp ?_
  have m : nI p * 120 = nI (p * 120) := pk_mul p 120
  have e2 : nI p * 120 + 3 + nI (re_b M p 1) * 3 = nI (p * 120 + pl_hd (re_b M p) 0) := by
    rw [m, show nI (p * 120) + 3 = nI (p * 120 + 3) from nI_add _ 3, show nI (re_b M p 1) * 3 = nI (re_b M p 1 * 3) from pk_mul _ 3, nI_add]
    exact congrArg nI (by show _ = p * 120 + (3 + 3 * re_b M p 1); omega)
  refine nm_r e2 ⟨f + 1, ?_⟩
  have L : ∀ d i, i + d = f → wY_head_18 post (nI f) yru ypl ynu yps yfi yac yre yme yrp yrq yrl (fun i => nI (M i)) yle ypr ywa ybp ybq ybo ysc yfn yat yhi ylo yen (d + 1) (nI (p * 120 + pl_hd (re_b M p) i)) (nI i) := by
    intro d
    induction d with
    | zero =>
      intro i hi
      have : i = f := by omega
      subst this
      exact br_t (nI_le (Nat.le_refl _) (by omega)) k
    | succ d ih =>
      intro i hd
      have h2 := hi i (by omega)
      have e3 : nI (p * 120 + pl_hd (re_b M p) i) + 2 = nI (p * 120 + (pl_hd (re_b M p) i + 2)) := by
        rw [show nI (p * 120 + pl_hd (re_b M p) i) + 2 = nI (p * 120 + pl_hd (re_b M p) i + 2) from nI_add _ 2, Nat.add_assoc]
      have e4 : nI (p * 120 + pl_hd (re_b M p) i) + (3 + nI (re_b M p (pl_hd (re_b M p) i + 2))) = nI (p * 120 + pl_hd (re_b M p) (i + 1)) := by
        rw [show 3 + nI (re_b M p (pl_hd (re_b M p) i + 2)) = nI (3 + re_b M p (pl_hd (re_b M p) i + 2)) from nI_add 3 _, nI_add]
        exact congrArg nI (by show _ = p * 120 + (pl_hd (re_b M p) i + 3 + re_b M p (pl_hd (re_b M p) i + 2)); omega)
      unfold wY_head_18
      rw [e3, nI_clamp (by omega), ← re_bi (M := M) (p := p) h2]
      exact br_f (nI_ge (by omega) (by omega)) ⟨vp_in_nI (by omega) (by omega), nm_r e4 (nm_r (nI_1 i) (ih (i + 1) (by omega)))⟩
  exact L f 0 (by omega)
theorem y_codeStart {post : Int32 → Prop} {p f : Nat} (hp : p ≤ 3) (hf : f ≤ 4) (h4 : re_b M p 1 ≤ 4) (hi : ∀ i, i < f → pl_hd (re_b M p) i + 2 < 120) (k : post (nI (p * 120 + pl_s (re_b M p) f))) :
    wpY_codeStart post (yru, ypl, ynu, yps, yfi, yac, yre, yme, yrp, yrq, yrl, fun i => nI (M i), yle, ypr, ywa, ybp, ybq, ybo, ysc, yfn, yat, yhi, ylo, yen) (nI p) (nI f) := by
  unfold wpY_codeStart
  dsimp only
  refine y_head hp hf h4 hi ?_
  rw [show nI (p * 120 + pl_hd (re_b M p) f) + 3 = nI (p * 120 + pl_hd (re_b M p) f + 3) from nI_add _ 3, Nat.add_assoc]
  exact k
theorem y_codeEnd {post : Int32 → Prop} {p f : Nat} (hp : p ≤ 3) (hf : f ≤ 4) (h4 : re_b M p 1 ≤ 4) (hi : ∀ i, i < f + 1 → pl_hd (re_b M p) i + 2 < 120) (k : post (nI (p * 120 + pl_e (re_b M p) f))) :
    wpY_codeEnd post (yru, ypl, ynu, yps, yfi, yac, yre, yme, yrp, yrq, yrl, fun i => nI (M i), yle, ypr, ywa, ybp, ybq, ybo, ysc, yfn, yat, yhi, ylo, yen) (nI p) (nI f) := by
  unfold wpY_codeEnd
  dsimp only
  refine y_head hp hf h4 (fun i h => hi i (by omega)) ?_
  have h2 := hi f (by omega)
  have e3 : nI (p * 120 + pl_hd (re_b M p) f) + 2 = nI (p * 120 + (pl_hd (re_b M p) f + 2)) := by
    rw [show nI (p * 120 + pl_hd (re_b M p) f) + 2 = nI (p * 120 + pl_hd (re_b M p) f + 2) from nI_add _ 2, Nat.add_assoc]
  rw [e3, nI_clamp (by omega), ← re_bi (M := M) (p := p) h2, show nI (p * 120 + pl_hd (re_b M p) f) + 3 = nI (p * 120 + pl_hd (re_b M p) f + 3) from nI_add _ 3, nI_add]
  refine ⟨vp_in_nI (by omega) (by omega), ?_⟩
  rw [show p * 120 + pl_hd (re_b M p) f + 3 + re_b M p (pl_hd (re_b M p) f + 2) = p * 120 + pl_e (re_b M p) f by unfold pl_e; omega]
  exact k
/-! the format once more, by the reference -/
theorem y_read {post : Int32 → SY → Prop} {a lo hi : Nat} {K : Nat × Nat} (hn : n ≤ 120) (hl : yle 3 = nI n) (hv : ∀ i, M i < 256) (hlo : lo < 256) (hhi : hi < 256) (ha : a < 1000)
    (k0 : a < n → lo ≤ re_b M 3 a → re_b M 3 a ≤ hi → ff_s (re_b M 3) n a lo hi K = K → post 1 (yru, ypl, ynu, nI (a + 1), yfi, yac, yre, yme, yrp, yrq, yrl, fun i => nI (M i), yle, ypr, ywa, ybp, ybq, ybo, ysc, yfn, yat, yhi, ylo, yen))
    (k1 : ∀ w p, w ≠ 0 → ff_s (re_b M 3) n a lo hi K = (w, p) → post 0 (yru, nI p, ynu, nI a, nI w, yac, yre, yme, yrp, yrq, yrl, fun i => nI (M i), yle, ypr, ywa, ybp, ybq, ybo, ysc, yfn, yat, yhi, ylo, yen)) :
    wpY_reads post (yru, ypl, ynu, nI a, yfi, yac, yre, yme, yrp, yrq, yrl, fun i => nI (M i), yle, ypr, ywa, ybp, ybq, ybo, ysc, yfn, yat, yhi, ylo, yen) (nI lo) (nI hi) := by
  unfold wpY_reads
  dsimp only
  have e3 : 360 + nI a = nI (360 + a) := nI_add 360 a
  rw [hl, e3]
  rcases ff_c (re_b M 3) n a lo hi K with ⟨h1, h2, h3, e⟩ | ⟨h1, e⟩ | ⟨h1, h2, e⟩
  · refine br_t (nI_lt h1 (by omega)) ⟨vp_in_nI (by omega) (by omega), ?_⟩
    rw [nI_clamp (by omega), y_b3 (M := M) (show a < 120 by omega)]
    exact nm_e (br_f (nI_nlt h2 (by omega)) (br_t (nI_le h3 (by omega)) (nm_r (nI_1 a) (k0 h1 h2 h3 e))))
  · exact br_f (nI_nlt h1 (by omega)) ⟨ba_nb0, k1 1 n (by omega) e⟩
  · refine br_t (nI_lt h1 (by omega)) ⟨vp_in_nI (by omega) (by omega), ?_⟩
    have := hv (360 + a)
    rw [nI_clamp (by omega), y_b3 (M := M) (show a < 120 by omega)]
    have hv' : re_b M 3 a < 256 := by rw [re_bi (show a < 120 by omega)]; exact hv _
    refine nm_e (br_c (fun _ => ⟨ba_nb0, k1 2 a (by omega) e⟩) fun z1 => br_c (fun z2 => ?_) fun _ => ⟨ba_nb0, k1 2 a (by omega) e⟩)
    rw [nI_ltI (by omega) (by omega)] at z1
    rw [nI_leI (by omega) (by omega)] at z2
    exact absurd h2 (by omega)
def ff_G (post : Int32 → SY → Prop) (g : Int32 → Int32 → Int32 → SY) (p0 f0 : Int32) (v : Nat × Nat) : Prop :=
  (v.1 = 0 → ∀ yps : Int32, post 1 (g p0 yps f0)) ∧ (v.1 ≠ 0 → ∀ yps : Int32, post 0 (g (nI v.2) yps (nI v.1)))
theorem y_fn79 {post : Int32 → SY → Prop} (hn : n ≤ 120) (hl : yle 3 = nI n) (hv : ∀ i, M i < 256) (hF : pl_nf (re_b M 3) ≤ 4) :
    ∀ d f, f + d = pl_nf (re_b M 3) → (pl_hd (re_b M 3) f ≤ n) → ff_G post (fun ypl yps yfi => (yru, ypl, ynu, yps, yfi, yac, yre, yme, yrp, yrq, yrl, fun i => nI (M i), yle, ypr, ywa, ybp, ybq, ybo, ysc, yfn, yat, yhi, ylo, yen)) ypl yfi (ff_fn (re_b M 3) n d f) →
      wY_format_79 post (nI (pl_nf (re_b M 3))) (d + 1) (nI f) yru ypl ynu (nI (pl_hd (re_b M 3) f)) yfi yac yre yme yrp yrq yrl (fun i => nI (M i)) yle ypr ywa ybp ybq ybo ysc yfn yat yhi ylo yen := by
  intro d
  induction d with
  | zero =>
    intro f hf hle K
    refine br_t (nI_le (by omega) (by omega)) ?_
    unfold ff_fn at K
    rw [hl]
    by_cases e : pl_hd (re_b M 3) f = n
    · rw [if_pos e] at K
      rw [e]
      exact br_t rfl (K.1 rfl _)
    · rw [if_neg e] at K
      exact br_f (ba_ne (by omega) (by omega) e) (br_t rfl (K.2 (by omega) _))
  | succ d ih =>
    intro f hf hle K
    have hS : ∀ w p : Nat, (ff_fn (re_b M 3) n (d + 1) f = (w, p)) → w ≠ 0 → ∀ yps : Int32, post 0 (yru, nI p, ynu, yps, nI w, yac, yre, yme, yrp, yrq, yrl, fun i => nI (M i), yle, ypr, ywa, ybp, ybq, ybo, ysc, yfn, yat, yhi, ylo, yen) := by
      intro w p e hw yps
      rw [e] at K
      exact K.2 hw _
    refine br_f (nI_ge (by omega) (by omega)) ?_
    refine y_read (lo := 0) (hi := 2) hn hl hv (by omega) (by omega) (by omega) (K := ff_s (re_b M 3) n (pl_hd (re_b M 3) f + 1) 0 3 (ff_s (re_b M 3) n (pl_hd (re_b M 3) f + 2) 1 40 (if n < pl_hd (re_b M 3) (f + 1) then (1, n) else ff_fn (re_b M 3) n d (f + 1)))) (fun h1 h2 h3 e1 => ?_) (fun w p hw e => br_t rfl (hS w p e hw _))
    refine br_f ba_10 ?_
    refine y_read (lo := 0) (hi := 3) hn hl hv (by omega) (by omega) (by omega) (K := (ff_s (re_b M 3) n (pl_hd (re_b M 3) f + 2) 1 40 (if n < pl_hd (re_b M 3) (f + 1) then (1, n) else ff_fn (re_b M 3) n d (f + 1)))) (fun h4 h5 h6 e2 => ?_) (fun w p hw e => br_t rfl (hS w p (e1.trans e) hw _))
    refine br_f ba_10 ?_
    refine y_read (lo := 1) (hi := 40) hn hl hv (by omega) (by omega) (by omega) (K := (if n < pl_hd (re_b M 3) (f + 1) then (1, n) else ff_fn (re_b M 3) n d (f + 1))) (fun h7 h8 h9 e3 => ?_) (fun w p hw e => br_t rfl (hS w p (e1.trans (e2.trans e)) hw _))
    refine br_f ba_10 ?_
    have E : ff_fn (re_b M 3) n (d + 1) f = if n < pl_hd (re_b M 3) (f + 1) then (1, n) else ff_fn (re_b M 3) n d (f + 1) := e1.trans (e2.trans e3)
    have hb1 : pl_hd (re_b M 3) (f + 1) < 1000 := by
      have h9' : re_b M 3 (pl_hd (re_b M 3) f + 2) ≤ 40 := h9
      show pl_hd (re_b M 3) f + 3 + re_b M 3 (pl_hd (re_b M 3) f + 2) < 1000
      omega
    have e4 : 360 + nI (pl_hd (re_b M 3) f + 1 + 1 + 1) - 1 = nI (360 + (pl_hd (re_b M 3) f + 2)) := by
      rw [show 360 + nI (pl_hd (re_b M 3) f + 1 + 1 + 1) = nI (360 + (pl_hd (re_b M 3) f + 2) + 1) from nI_add 360 _, nI_pred]
    have e5 : nI (pl_hd (re_b M 3) f + 1 + 1 + 1) + nI (re_b M 3 (pl_hd (re_b M 3) f + 2)) = nI (pl_hd (re_b M 3) (f + 1)) := by rw [nI_add]; rfl
    refine ⟨by rw [e4]; exact vp_in_nI (by omega) (by omega), nm_r (e' := nI (pl_hd (re_b M 3) (f + 1))) ?_ ?_⟩
    · dsimp only
      rw [e4, nI_clamp (by omega), ← e5, y_b3 (M := M) (show pl_hd (re_b M 3) f + 2 < 120 by omega)]
    · rw [hl]
      by_cases e : n < pl_hd (re_b M 3) (f + 1)
      · rw [if_pos e] at E
        exact br_f (nI_ge e (by omega)) ⟨ba_nb0, hS 1 n E (by omega) _⟩
      · rw [if_neg e] at E
        exact br_t (nI_le (by omega) (by omega)) (nm_r (nI_1 f) (ih (f + 1) (by omega) (by omega) (by rw [E] at K; exact K)))
theorem y_im37 {post : Int32 → SY → Prop} (hn : n ≤ 120) (hl : yle 3 = nI n) (hv : ∀ i, M i < 256) (hI : re_b M 3 1 ≤ 4) :
    ∀ d i, i + d = 3 * re_b M 3 1 → ff_G post (fun ypl yps yfi => (yru, ypl, ynu, yps, yfi, yac, yre, yme, yrp, yrq, yrl, fun i => nI (M i), yle, ypr, ywa, ybp, ybq, ybo, ysc, yfn, yat, yhi, ylo, yen)) ypl yfi (ff_im (re_b M 3) n d i) →
      wY_format_37 post (nI (3 * re_b M 3 1)) (d + 1) (nI i) yru ypl ynu (nI (2 + i)) yfi yac yre yme yrp yrq yrl (fun i => nI (M i)) yle ypr ywa ybp ybq ybo ysc yfn yat yhi ylo yen := by
  intro d
  induction d with
  | zero =>
    intro i hi K
    have ei : i = 3 * re_b M 3 1 := by omega
    refine br_t (nI_le (by omega) (by omega)) ?_
    refine y_read (lo := 1) (hi := 4) hn hl hv (by omega) (by omega) (by omega) (K := ff_fn (re_b M 3) n (pl_nf (re_b M 3)) 0) (fun h1 h2 h3 e1 => ?_) (fun w p hw e => ?_)
    · have en : re_b M 3 (2 + i) = pl_nf (re_b M 3) := by rw [ei]; rfl
      have e2 : ff_im (re_b M 3) n 0 i = ff_fn (re_b M 3) n (pl_nf (re_b M 3)) 0 := e1
      rw [e2] at K
      have h0 : pl_hd (re_b M 3) 0 = 2 + i + 1 := by show 3 + 3 * re_b M 3 1 = _; omega
      refine br_f ba_10 (y_functions (p := 3) (by omega) hI ?_)
      rw [← h0]
      exact ⟨_, y_fn79 hn hl hv (by rw [← en]; exact h3) (pl_nf (re_b M 3)) 0 (by omega) (by omega) K⟩
    · have e2 : ff_im (re_b M 3) n 0 i = (w, p) := e
      rw [e2] at K
      exact br_t rfl (K.2 hw _)
  | succ d ih =>
    intro i hi K
    refine br_f (nI_ge (by omega) (by omega)) ?_
    refine y_read (lo := 0) (hi := 7) hn hl hv (by omega) (by omega) (by omega) (K := ff_im (re_b M 3) n d (i + 1)) (fun h1 h2 h3 e1 => ?_) (fun w p hw e => ?_)
    · have e2 : ff_im (re_b M 3) n (d + 1) i = ff_im (re_b M 3) n d (i + 1) := e1
      rw [e2] at K
      exact br_f ba_10 (nm_r (nI_1 i) (ih (i + 1) (by omega) K))
    · have e2 : ff_im (re_b M 3) n (d + 1) i = (w, p) := e
      rw [e2] at K
      exact br_t rfl (K.2 hw _)
theorem y_format {post : Int32 → SY → Prop} (hn : n ≤ 120) (hl : yle 3 = nI n) (hv : ∀ i, M i < 256)
    (K : ff_G post (fun ypl yps yfi => (yru, ypl, ynu, yps, yfi, yac, yre, yme, yrp, yrq, yrl, fun i => nI (M i), yle, ypr, ywa, ybp, ybq, ybo, ysc, yfn, yat, yhi, ylo, yen)) ypl yfi (ff_v (re_b M 3) n)) : wpY_format post (yru, ypl, ynu, yps, yfi, yac, yre, yme, yrp, yrq, yrl, fun i => nI (M i), yle, ypr, ywa, ybp, ybq, ybo, ysc, yfn, yat, yhi, ylo, yen) := by
  unfold wpY_format
  dsimp only
  refine y_read (a := 0) (lo := 80) (hi := 80) hn hl hv (by omega) (by omega) (by omega) (K := ff_s (re_b M 3) n 1 0 4 (ff_im (re_b M 3) n (3 * re_b M 3 1) 0)) (fun h1 h2 h3 e1 => ?_) (fun w p hw e => ?_)
  · refine br_f ba_10 ?_
    refine y_read (a := 1) (lo := 0) (hi := 4) hn hl hv (by omega) (by omega) (by omega) (K := ff_im (re_b M 3) n (3 * re_b M 3 1) 0) (fun h4 h5 h6 e2 => ?_) (fun w p hw e => ?_)
    · have E : ff_v (re_b M 3) n = ff_im (re_b M 3) n (3 * re_b M 3 1) 0 := e1.trans e2
      rw [E] at K
      refine br_f ba_10 (y_imports (p := 3) (by omega) (nm_r (e' := nI (3 * re_b M 3 1)) ?_ ⟨_, y_im37 hn hl hv h6 (3 * re_b M 3 1) 0 (by omega) K⟩))
      rw [show nI (re_b M 3 1) * 3 = nI (re_b M 3 1 * 3) from pk_mul _ 3, Nat.mul_comm]
    · have E : ff_v (re_b M 3) n = (w, p) := e1.trans e
      rw [E] at K
      exact br_t rfl (K.2 hw _)
  · have E : ff_v (re_b M 3) n = (w, p) := e
    rw [E] at K
    exact br_t rfl (K.2 hw _)
end A9
