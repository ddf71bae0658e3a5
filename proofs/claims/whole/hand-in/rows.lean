section
section A1
/-! numbers: rows of the kit's PURE-ROWS first, then own ones -/
theorem pk_us {f : Nat → Int32} {k : Nat} {x : Int32} : upd f k x k = x := if_pos rfl
theorem pk_un {f : Nat → Int32} {k j : Nat} {x : Int32} (h : j ≠ k) : upd f k x j = f j := if_neg h
theorem pk_sub {a b : Nat} (h : b ≤ a) : nI a - nI b = nI (a - b) := by
  obtain ⟨c, rfl⟩ : ∃ c, a = c + b := ⟨a - b, by omega⟩
  rw [← nI_add, Int32.add_sub_cancel, Nat.add_sub_cancel]
theorem pk_m1 (n : Nat) : nI (n + 1) + (-1) = nI n := by
  rw [← nI_1, Int32.add_assoc, show (1 : Int32) + (-1) = 0 from rfl, Int32.add_zero]
theorem pk_mul (a b : Nat) : nI a * nI b = nI (a * b) := (Int32.ofNat_mul a b).symm
theorem pk_div {a d : Nat} (ha : a < 2 ^ 31) (h0 : 0 < d) (hd : d < 2 ^ 31) : nI a / nI d = nI (a / d) := by
  apply Int32.toInt_inj.mp
  rw [lg_idiv_nonneg (by rw [nI_toInt ha]; omega) (by rw [nI_toInt hd]; omega), nI_toInt ha, nI_toInt hd, nI_toInt (Nat.lt_of_le_of_lt (Nat.div_le_self a d) ha)]
  first | rfl | exact (Int.natCast_ediv _ _).symm
theorem pk_rem {a d : Nat} (ha : a < 2 ^ 31) (h0 : 0 < d) (hd : d < 2 ^ 31) : nI a - nI a / nI d * nI d = nI (a % d) := by
  rw [pk_div ha h0 hd, pk_mul, pk_sub (Nat.div_mul_le_self a d)]
  exact congrArg nI (by have := Nat.div_add_mod' a d; omega)
theorem pk_sub_toInt {a b : Nat} (ha : a < 2 ^ 30) (hb : b < 2 ^ 30) : (nI a - nI b).toInt = (a : Int) - b := by
  rw [Int32.toInt_sub, nI_toInt (by omega), nI_toInt (by omega)]
  exact Int.bmod_eq_of_le (by omega) (by omega)
theorem pk_sneg {a b : Nat} (hb : b < 2 ^ 30) (h : a < b) : nI a - nI b < 0 := by
  rw [Int32.lt_iff_toInt_lt, pk_sub_toInt (by omega) hb, show (0 : Int32).toInt = 0 from by decide]
  omega
theorem pk_ix (x : Int32) {n : Nat} (hn : n < 2 ^ 31) : x < 0 ∨ nI n ≤ x ∨ ∃ j : Nat, j < n ∧ x = nI j := by
  by_cases h : x < 0
  · exact Or.inl h
  · obtain ⟨j, hj, rfl⟩ := nI_of h
    by_cases h2 : j < n
    · exact Or.inr (Or.inr ⟨j, h2, rfl⟩)
    · exact Or.inr (Or.inl (nI_le (by omega) hj))
theorem pk_le {x y : Int32} {A B : Prop} (a b : Nat) (f : a ≤ b → A) (g : b < a → B) (hx : x = nI a := by rfl) (hy : y = nI b := by rfl) (ha : a < 2 ^ 31 := by omega) (hb : b < 2 ^ 31 := by omega) : (x ≤ y → A) ∧ (¬ x ≤ y → B) := by
  subst hx hy
  rw [nI_leI ha hb]
  exact ⟨f, fun z => g (by omega)⟩
theorem pk_lt {x y : Int32} {A B : Prop} (a b : Nat) (f : a < b → A) (g : b ≤ a → B) (hx : x = nI a := by rfl) (hy : y = nI b := by rfl) (ha : a < 2 ^ 31 := by omega) (hb : b < 2 ^ 31 := by omega) : (x < y → A) ∧ (¬ x < y → B) := by
  subst hx hy
  rw [nI_ltI ha hb]
  exact ⟨f, fun z => g (by omega)⟩
theorem pk_eq {x y : Int32} {A B : Prop} (a b : Nat) (f : a = b → A) (g : a ≠ b → B) (hx : x = nI a := by rfl) (hy : y = nI b := by rfl) (ha : a < 2 ^ 31 := by omega) (hb : b < 2 ^ 31 := by omega) : (x = y → A) ∧ (¬ x = y → B) := by
  subst hx hy
  rw [nI_eq ha hb]
  exact ⟨f, g⟩
theorem pk_in {x : Int32} (n N : Nat) (h : n < N) (hx : x = nI n := by rfl) (hN : N < 2 ^ 31 := by omega) : vp_in x N := by
  subst hx
  exact vp_in_nI h hN
theorem pk_cl {x : Int32} (n : Nat) (hx : x = nI n := by rfl) (h : n < 2 ^ 31 := by omega) : x.toNatClampNeg = n := by
  subst hx
  exact nI_clamp h
theorem pk_tn {n : Nat} (h : n < 2 ^ 32) : (nI n).toBitVec.toNat = n := Nat.mod_eq_of_lt h
theorem pk_and (x : Int32) {m : Int32} (k : Nat) (hm : m.toBitVec.toNat = 2 ^ k - 1) : x &&& m = nI (x.toBitVec.toNat % 2 ^ k) := by
  apply Int32.toBitVec_inj.mp
  apply BitVec.eq_of_toNat_eq
  rw [Int32.toBitVec_and, BitVec.toNat_and, hm, Nat.and_two_pow_sub_one_eq_mod]
  show _ = (BitVec.ofNat 32 _).toNat
  rw [BitVec.toNat_ofNat]
  exact (Nat.mod_eq_of_lt (Nat.lt_of_le_of_lt (Nat.mod_le _ _) x.toBitVec.isLt)).symm
theorem pk_andN {n : Nat} (h : n < 2 ^ 32) {m : Int32} (k : Nat) (hm : m.toBitVec.toNat = 2 ^ k - 1) : nI n &&& m = nI (n % 2 ^ k) := by
  rw [pk_and _ k hm, pk_tn h]
theorem pk_shr (a s : Int32) (k : Nat) (hs : (s.toBitVec.smod 32).toNat = k) : (a >>> s).toInt = a.toInt >>> k := by
  show (a.toBitVec.sshiftRight (s.toBitVec.smod 32).toNat).toInt = _
  rw [hs, BitVec.toInt_sshiftRight]
  rfl
theorem pk_shrN {n : Nat} (h : n < 2 ^ 31) (s : Int32) (k : Nat) (hs : (s.toBitVec.smod 32).toNat = k) : nI n >>> s = nI (n / 2 ^ k) := by
  apply Int32.toInt_inj.mp
  have h2 : n / 2 ^ k ≤ n := Nat.div_le_self _ _
  rw [pk_shr _ _ k hs, nI_toInt h, nI_toInt (by omega), Int.shiftRight_eq_div_pow]
  rfl
theorem pk_loop {σ : Type} (W : Nat → Nat → σ → Prop) (I : Nat → σ → Prop) (e i0 : Nat) (s : σ) (hi : i0 ≤ e) (h0 : I i0 s) (hx : ∀ n s, I e s → W (n + 1) e s)
    (hs : ∀ n i s, i < e → I i s → (∀ s', I (i + 1) s' → W n (i + 1) s') → W (n + 1) i s) : ∃ n, W n i0 s :=
  ⟨e + 1, loop_i W I e hx hs (e + 1) i0 s hi (by omega) h0⟩
theorem pk_least (P : Nat → Prop) (h : ∃ k, P k) : ∃ k, P k ∧ ∀ j, j < k → ¬ P j := by
  obtain ⟨k, hk⟩ := h
  induction k using Nat.strongRecOn with
  | ind k ih =>
    by_cases e : ∃ j, j < k ∧ P j
    · obtain ⟨j, hj, pj⟩ := e
      exact ih j hj pj
    · exact ⟨k, hk, fun j hj pj => e ⟨j, hj, pj⟩⟩
theorem ba_lit (n : Nat) : (OfNat.ofNat n : Int32) = nI (OfNat.ofNat n) := rfl
theorem ba_vb0 : vp_nar .boolean 0 = 0 := by decide
theorem ba_vb1 : vp_nar .boolean 1 = 1 := by decide
theorem ba_nb0 : narrow .boolean (.int 0) = .int 0 := by rfl
theorem ba_nb1 : narrow .boolean (.int 1) = .int 1 := by rfl
theorem ba_nb {x : Int32} (h : x = 0 ∨ x = 1) : narrow .boolean (.int x) = .int x := by
  rcases h with rfl | rfl
  · exact ba_nb0
  · exact ba_nb1
theorem ba_10 : ¬ (1 : Int32) = 0 := by decide
theorem ba_ne {a b : Nat} (ha : a < 2 ^ 31) (hb : b < 2 ^ 31) (h : a ≠ b) : ¬ nI a = nI b := fun e => h ((nI_eq ha hb).mp e)
theorem ba_m1ne {a : Nat} (h : a < 2 ^ 31) : ¬ nI a = -1 := by
  intro e
  have := nI_pos (n := a) h
  rw [e] at this
  exact this (by decide)
theorem ba_m1lt : (-1 : Int32) < 0 := by decide
theorem ba_m1lt' {a : Nat} (h : a < 2 ^ 31) : (-1 : Int32) < nI a := by
  rw [Int32.lt_iff_toInt_lt, nI_toInt h, show (-1 : Int32).toInt = -1 from by decide]
  omega
/-- an Int32 at a natural upper bound: below 0, above, or within -/
theorem ba_c (x : Int32) {n : Nat} (hn : n < 2 ^ 31) : x < 0 ∨ (¬ x < 0 ∧ nI n < x ∧ ¬ x ≤ nI n) ∨ (¬ x < 0 ∧ ¬ nI n < x ∧ x ≤ nI n ∧ ∃ j, j ≤ n ∧ x = nI j) := by
  by_cases h : x < 0
  · exact Or.inl h
  · obtain ⟨j, hj, rfl⟩ := nI_of h
    by_cases h2 : j ≤ n
    · exact Or.inr (Or.inr ⟨h, nI_nlt h2 hn, nI_le h2 hn, j, h2, rfl⟩)
    · exact Or.inr (Or.inl ⟨h, nI_lt (by omega) hj, by rw [nI_leI hj hn]; omega⟩)
/-- x >> 1 and x & 1 -/
theorem ba_shr (x : Int32) : (x >>> ((1 : Int32) &&& 31)).toInt = x.toInt / 2 := by
  rw [pk_shr x _ 1 (by decide), Int.shiftRight_eq_div_pow]; rfl
theorem ba_sub1 (n : Nat) : nI (n + 1) - 1 = nI n := nI_pred n
def um_f (M : Nat → Nat) (k v : Nat) : Nat → Nat := fun i => if i = k then v else M i
theorem um_s {M : Nat → Nat} {k v : Nat} : um_f M k v k = v := if_pos rfl
theorem um_n {M : Nat → Nat} {k v j : Nat} (h : j ≠ k) : um_f M k v j = M j := if_neg h
theorem um_upd {M : Nat → Nat} {k v : Nat} : upd (fun i => nI (M i)) k (nI v) = fun i => nI (um_f M k v i) := by
  funext i
  by_cases h : i = k
  · subst h; rw [pk_us, um_s]
  · rw [pk_un h, um_n h]
end A1
end
section
section A2
/-! the plugin's bytes as naturals b, counted from its own beginning -/
def pl_sz (c : Nat) : Nat := if c ≤ 2 ∨ (10 ≤ c ∧ c ≤ 15) then 2 else 1
def pl_hd (b : Nat → Nat) : Nat → Nat
  | 0 => 3 + 3 * b 1
  | f + 1 => pl_hd b f + 3 + b (pl_hd b f + 2)
def pl_nf (b : Nat → Nat) : Nat := b (2 + 3 * b 1)
def pl_s (b : Nat → Nat) (f : Nat) : Nat := pl_hd b f + 3
def pl_e (b : Nat → Nat) (f : Nat) : Nat := pl_hd b f + 3 + b (pl_hd b f + 2)
/-- the k-th instruction from s on -/
def pl_sc (b : Nat → Nat) (s : Nat) : Nat → Nat
  | 0 => s
  | k + 1 => pl_sc b s k + pl_sz (b (pl_sc b s k))
/-- i is the first byte of an instruction of function f -/
def pl_IS (b : Nat → Nat) (f i : Nat) : Prop := i < pl_e b f ∧ ∃ k, pl_sc b (pl_s b f) k = i
def pl_sg (c : Nat) : Int := if c < 128 then (c : Int) else (c : Int) - 256
def pl_tg (b : Nat → Nat) (i : Nat) : Int := (i : Int) + 2 + pl_sg (b (i + 1))
def pl_wt (c : Nat) : Nat := if c = 13 then 5 else 1
def pl_tk (b : Nat → Nat) (i : Nat) : Nat :=
  if b i = 12 then b (pl_hd b (b (i + 1))) else if 3 ≤ b i ∧ b i ≤ 7 then 2 else if b i = 0 ∨ b i = 1 ∨ b i = 10 ∨ b i = 14 then 0 else 1
def pl_gv (c : Nat) : Nat := if c = 8 then 2 else if c ≤ 1 ∨ (3 ≤ c ∧ c ≤ 7) ∨ (12 ≤ c ∧ c ≤ 14) then 1 else 0
/-- what an operand stays below -/
def pl_li (b : Nat → Nat) (f c : Nat) : Nat :=
  if c = 1 ∨ c = 2 then b (pl_hd b f) + b (pl_hd b f + 1) else if c = 12 then pl_nf b else if c = 13 then b 1 else if c = 14 ∨ c = 15 then 4 else 256
/-- a bad code at i -/
def pl_bad (b : Nat → Nat) (f i : Nat) : Prop := 16 < b i ∨ (pl_sz (b i) = 2 ∧ (pl_e b f ≤ i + 1 ∨ pl_li b f (b i) ≤ b (i + 1)))
def pl_jok (b : Nat → Nat) (f i : Nat) : Prop := (b i = 10 ∨ b i = 11) → ∃ j : Nat, pl_tg b i = (j : Int) ∧ pl_s b f ≤ j ∧ pl_IS b f j
/-- a block begins at j -/
def pl_L (b : Nat → Nat) (f j : Nat) : Prop :=
  j = pl_s b f ∨ ∃ i, pl_IS b f i ∧ (((b i = 10 ∨ b i = 11) ∧ pl_tg b i = (j : Int)) ∨ (10 ≤ b i ∧ b i ≤ 13 ∧ i + 2 = j) ∨ (b i = 16 ∧ i + 1 = j))
/-- the cost from i on to the next block or the end -/
noncomputable def pl_cs (b : Nat → Nat) (f : Nat) : Nat → Nat → Nat
  | 0, _ => 0
  | n + 1, i => if pl_e b f ≤ i then 0 else @ite _ (pl_L b f i) (Classical.propDecidable _) 0 (pl_wt (b i) + pl_cs b f n (i + pl_sz (b i)))
noncomputable def pl_T (b : Nat → Nat) (f i : Nat) : Nat := pl_cs b f (pl_e b f - i) i
noncomputable def pl_C (b : Nat → Nat) (f i : Nat) : Nat := @ite _ (pl_L b f i) (Classical.propDecidable _) (pl_wt (b i) + pl_T b f (i + pl_sz (b i))) 0
/-- all ways of f keep the rule of heights: R i h says that i is reached with h entries -/
def pl_Good (b : Nat → Nat) (f : Nat) (R : Nat → Nat → Prop) : Prop :=
  R (pl_s b f) 0 ∧ (∀ i h h', R i h → R i h' → h = h') ∧ ∀ i h, R i h → pl_tk b i ≤ h ∧ h - pl_tk b i + pl_gv (b i) ≤ 6 ∧
    ((b i = 10 ∨ b i = 11) → ∃ j : Nat, pl_tg b i = (j : Int) ∧ pl_s b f ≤ j ∧ j < pl_e b f ∧ R j (h - pl_tk b i + pl_gv (b i))) ∧
    (b i ≠ 10 → b i ≠ 16 → i + pl_sz (b i) < pl_e b f ∧ R (i + pl_sz (b i)) (h - pl_tk b i + pl_gv (b i)))
def pl_Flow (b : Nat → Nat) (f : Nat) : Prop := ∃ R, pl_Good b f R
/-- the format -/
def pl_Fmt (b : Nat → Nat) (n : Nat) : Prop :=
  b 1 ≤ 4 ∧ (∀ i, i < 3 * b 1 → b (2 + i) ≤ 7) ∧ 1 ≤ pl_nf b ∧ pl_nf b ≤ 4 ∧
    (∀ f, f < pl_nf b → b (pl_hd b f) ≤ 2 ∧ b (pl_hd b f + 1) ≤ 3 ∧ 1 ≤ b (pl_hd b f + 2) ∧ b (pl_hd b f + 2) ≤ 40) ∧ pl_hd b (pl_nf b) = n
def pl_WF (b : Nat → Nat) (n : Nat) : Prop :=
  n ≤ 120 ∧ pl_Fmt b n ∧ (∀ f, f < pl_nf b → (∀ i, pl_IS b f i → ¬ pl_bad b f i) ∧ (∀ i, pl_IS b f i → pl_jok b f i) ∧ pl_Flow b f)
theorem pl_e_hd (b : Nat → Nat) (f : Nat) : pl_e b f = pl_hd b (f + 1) := rfl
theorem pl_sz_pos (c : Nat) : 1 ≤ pl_sz c ∧ pl_sz c ≤ 2 := by
  unfold pl_sz; split <;> omega
theorem pl_sc_lt (b : Nat → Nat) (s : Nat) : ∀ k m, k < m → pl_sc b s k < pl_sc b s m := by
  intro k m h
  induction m with
  | zero => omega
  | succ m ih =>
    have h1 := pl_sz_pos (b (pl_sc b s m))
    show _ < pl_sc b s m + pl_sz (b (pl_sc b s m))
    by_cases e : k = m
    · subst e; omega
    · have := ih (by omega); omega
theorem pl_sc_inj {b : Nat → Nat} {s k m : Nat} (h : pl_sc b s k = pl_sc b s m) : k = m := by
  by_cases h1 : k < m
  · have := pl_sc_lt b s k m h1; omega
  · by_cases h2 : m < k
    · have := pl_sc_lt b s m k h2; omega
    · omega
theorem pl_sc_ge (b : Nat → Nat) (s : Nat) : ∀ k, s + k ≤ pl_sc b s k := by
  intro k
  induction k with
  | zero => exact Nat.le_refl _
  | succ k ih =>
    have h1 := pl_sz_pos (b (pl_sc b s k))
    show _ ≤ pl_sc b s k + pl_sz (b (pl_sc b s k))
    omega
theorem pl_IS0 {b : Nat → Nat} {f : Nat} (h : 1 ≤ b (pl_hd b f + 2)) : pl_IS b f (pl_s b f) :=
  ⟨by unfold pl_s pl_e; omega, 0, rfl⟩
theorem pl_ISn {b : Nat → Nat} {f i : Nat} (h : pl_IS b f i) (hn : i + pl_sz (b i) < pl_e b f) : pl_IS b f (i + pl_sz (b i)) := by
  obtain ⟨_, k, rfl⟩ := h
  exact ⟨hn, k + 1, rfl⟩
theorem pl_ISge {b : Nat → Nat} {f i : Nat} (h : pl_IS b f i) : pl_s b f ≤ i := by
  obtain ⟨_, k, rfl⟩ := h
  have := pl_sc_ge b (pl_s b f) k
  omega
theorem pl_cs_fuel {b : Nat → Nat} {f : Nat} : ∀ n m i, pl_e b f - i ≤ n → pl_e b f - i ≤ m → pl_cs b f n i = pl_cs b f m i := by
  intro n
  induction n with
  | zero =>
    intro m i h1 h2
    cases m with
    | zero => rfl
    | succ m => show 0 = if pl_e b f ≤ i then 0 else _; rw [if_pos (by omega)]
  | succ n ih =>
    intro m i h1 h2
    by_cases hi : pl_e b f ≤ i
    · cases m with
      | zero => show (if pl_e b f ≤ i then 0 else _) = 0; rw [if_pos hi]
      | succ m => show (if pl_e b f ≤ i then 0 else _) = if pl_e b f ≤ i then 0 else _; rw [if_pos hi, if_pos hi]
    · cases m with
      | zero => omega
      | succ m =>
        have := pl_sz_pos (b i)
        show (if pl_e b f ≤ i then 0 else _) = if pl_e b f ≤ i then 0 else _
        rw [if_neg hi, if_neg hi, ih m (i + pl_sz (b i)) (by omega) (by omega)]
theorem pl_T_end {b : Nat → Nat} {f i : Nat} (h : pl_e b f ≤ i) : pl_T b f i = 0 := by
  unfold pl_T
  rw [show pl_e b f - i = 0 by omega]
  rfl
theorem pl_T_L {b : Nat → Nat} {f i : Nat} (h : pl_L b f i) : pl_T b f i = 0 := by
  by_cases hi : pl_e b f ≤ i
  · exact pl_T_end hi
  · unfold pl_T
    rw [pl_cs_fuel (pl_e b f - i) (pl_e b f - i + 1) i (by omega) (by omega)]
    show (if pl_e b f ≤ i then 0 else _) = 0
    rw [if_neg hi, if_pos h]
theorem pl_T_n {b : Nat → Nat} {f i : Nat} (hi : i < pl_e b f) (h : ¬ pl_L b f i) : pl_T b f i = pl_wt (b i) + pl_T b f (i + pl_sz (b i)) := by
  have := pl_sz_pos (b i)
  unfold pl_T
  rw [pl_cs_fuel (pl_e b f - i) (pl_e b f - i + 1) i (by omega) (by omega)]
  show (if pl_e b f ≤ i then 0 else _) = _
  rw [if_neg (by omega), if_neg h, pl_cs_fuel (pl_e b f - i) (pl_e b f - (i + pl_sz (b i))) _ (by omega) (by omega)]
theorem pl_C_L {b : Nat → Nat} {f i : Nat} (h : pl_L b f i) : pl_C b f i = pl_wt (b i) + pl_T b f (i + pl_sz (b i)) := if_pos h
theorem pl_C_n {b : Nat → Nat} {f i : Nat} (h : ¬ pl_L b f i) : pl_C b f i = 0 := if_neg h
theorem pl_wt_pos (c : Nat) : 1 ≤ pl_wt c ∧ pl_wt c ≤ 5 := by unfold pl_wt; split <;> omega
theorem pl_cs_le {b : Nat → Nat} {f : Nat} : ∀ n i, pl_cs b f n i ≤ 5 * n := by
  intro n
  induction n with
  | zero => intro i; exact Nat.le_refl _
  | succ n ih =>
    intro i
    show (if pl_e b f ≤ i then 0 else _) ≤ _
    split
    · omega
    · have h1 := pl_wt_pos (b i)
      have h2 := ih (i + pl_sz (b i))
      split <;> omega
theorem pl_T_le {b : Nat → Nat} {f i : Nat} (h : pl_s b f ≤ i) (hl : b (pl_hd b f + 2) ≤ 40) : pl_T b f i ≤ 200 := by
  have := pl_cs_le (b := b) (f := f) (pl_e b f - i) i
  have h2 : pl_e b f = pl_s b f + b (pl_hd b f + 2) := rfl
  unfold pl_T
  omega
end A2
end
section
section A3
/-! the relation between the two states -/
def re_RU (r : Nat) (pt : Nat → Nat) (xrp xrA xrB xrC yrp yrq yrl : Nat → Int32) : Prop :=
  r ≤ 12 ∧ ∀ i, i < r → pt i ≤ 3 ∧ (xrp i) >>> ((1 : Int32) &&& 31) = nI (pt i) ∧ yrp i = nI (pt i) ∧ yrq (i * 3) = xrA i ∧ yrq (i * 3 + 1) = xrB i ∧ yrq (i * 3 + 2) = xrC i ∧ yrl i = if (xrp i) &&& 1 = 1 then 1 else 0
def re_BY (M : Nat → Nat) (n : Nat) (xby xim yle : Nat → Int32) : Prop :=
  n ≤ 120 ∧ yle 3 = nI n ∧ (∀ i, M i < 256) ∧ (∀ i, i < 360 → xim i = nI (M i)) ∧ (∀ i, i < 120 → xby i = nI (M (360 + i)))
def re_PW (b : Nat → Nat) (p : Nat) (xic xih xif : Nat → Int32) : Prop :=
  (∃ n, pl_WF b n) ∧ xif p = nI (pl_nf b) ∧ ∀ f, f < pl_nf b → xih (p * 4 + f) = nI (p * 120 + pl_hd b f) ∧ ∀ i, pl_IS b f i → xic (p * 120 + i) = nI (pl_C b f i)
def re_b (M : Nat → Nat) (p : Nat) : Nat → Nat := fun i => if i < 120 then M (p * 120 + i) else 0
theorem re_bi {M : Nat → Nat} {p i : Nat} (h : i < 120) : re_b M p i = M (p * 120 + i) := if_pos h
theorem re_bc {M M' : Nat → Nat} {p : Nat} (h : ∀ i, i < 120 → M' (p * 120 + i) = M (p * 120 + i)) : re_b M' p = re_b M p := by
  funext i
  by_cases e : i < 120
  · rw [re_bi e, re_bi e, h i e]
  · unfold re_b; rw [if_neg e, if_neg e]
def re_PL (M : Nat → Nat) (xld xic xih xif : Nat → Int32) : Prop :=
  ∀ p, p < 3 → ¬ xld p = 0 → re_PW (re_b M p) p xic xih xif
def re_BX (xld xop xbp xbq : Nat → Int32) : Prop :=
  ∀ x, x < 4 → ¬ xop x = 0 → ∃ p q, p < 3 ∧ q ≤ 2000 ∧ xbp x = nI p ∧ ¬ xld p = 0 ∧ xbq x = nI q
def re_I (r n : Nat) (pt M : Nat → Nat) (xrp xrA xrB xrC xby xld xim xic xih xif xop xbp xbq yrp yrq yrl yle : Nat → Int32) : Prop :=
  re_RU r pt xrp xrA xrB xrC yrp yrq yrl ∧ re_BY M n xby xim yle ∧ re_PL M xld xic xih xif ∧ re_BX xld xop xbp xbq
def i_Rel (k : Nat) (u : SX) (v : SY) : Prop :=
  ∃ (r n : Nat) (pt M : Nat → Nat) (xfc xrn xra xfi xfp xgn xac xlr : Int32) (xhm : Int64) (xrp xrA xrB xrC xby xhd xst xbg xco xen xre xld xim xic xih xif xop xbp xbq xsc xna xhe xlo xsk : Nat → Int32) (yps yfi yac : Int32) (yrp yrq yrl yle ywa yfn yat yhi ylo yen : Nat → Int32),
    u = (nI r, nI n, xfc, xrn, xra, xfi, xfp, xgn, xac, xlr, xhm, xrp, xrA, xrB, xrC, xby, xhd, xst, xbg, xco, xen, xre, xld, xim, xic, xih, xif, xop, xbp, xbq, xsc, xna, xhe, xlo, xsk) ∧ v = (nI r, xfp, xgn, yps, yfi, yac, xlr, xhm, yrp, yrq, yrl, fun i => nI (M i), yle, xld, ywa, xbp, xbq, xop, xsc, yfn, yat, yhi, ylo, yen) ∧
    re_I r n pt M xrp xrA xrB xrC xby xld xim xic xih xif xop xbp xbq yrp yrq yrl yle
variable {r n : Nat} {pt M : Nat → Nat} {xrc xbc xfc xrn xra xfi xfp xgn xac xlr : Int32} {xhm : Int64} {xrp xrA xrB xrC xby xhd xst xbg xco xen xre xld xim xic xih xif xop xbp xbq xsc xna xhe xlo xsk : Nat → Int32} {yru ypl ynu yps yfi yac yre : Int32} {yme : Int64} {yrp yrq yrl yby yle ypr ywa ybp ybq ybo ysc yfn yat yhi ylo yen : Nat → Int32}
theorem re_mk {k : Nat} (h : re_I r n pt M xrp xrA xrB xrC xby xld xim xic xih xif xop xbp xbq yrp yrq yrl yle) :
    i_Rel k (nI r, nI n, xfc, xrn, xra, xfi, xfp, xgn, xac, xlr, xhm, xrp, xrA, xrB, xrC, xby, xhd, xst, xbg, xco, xen, xre, xld, xim, xic, xih, xif, xop, xbp, xbq, xsc, xna, xhe, xlo, xsk) (nI r, xfp, xgn, yps, yfi, yac, xlr, xhm, yrp, yrq, yrl, fun i => nI (M i), yle, xld, ywa, xbp, xbq, xop, xsc, yfn, yat, yhi, ylo, yen) :=
  ⟨r, n, pt, M, xfc, xrn, xra, xfi, xfp, xgn, xac, xlr, xhm, xrp, xrA, xrB, xrC, xby, xhd, xst, xbg, xco, xen, xre, xld, xim, xic, xih, xif, xop, xbp, xbq, xsc, xna, xhe, xlo, xsk, yps, yfi, yac, yrp, yrq, yrl, yle, ywa, yfn, yat, yhi, ylo, yen, rfl, rfl, h⟩
theorem i_up {k : Nat} {u : SX} {v : SY} (h : i_Rel k u v) : i_Rel (k + 5) u v := h
theorem i_vc0 : wpX_init (fun u => wpY_init (fun v => i_Rel 0 u v)) := by
  have h : re_I 0 0 (fun _ => 0) (fun _ => 0) (fun _ => 0) (fun _ => 0) (fun _ => 0) (fun _ => 0) (fun _ => 0) (fun _ => 0) (fun _ => 0) (fun _ => 0) (fun _ => 0) (fun _ => 0) (fun _ => 0) (fun _ => 0) (fun _ => 0) (fun _ => 0) (fun _ => 0) (fun _ => 0) (fun _ => 0) := by
    refine ⟨⟨by omega, fun i hi => absurd hi (by omega)⟩, ⟨by omega, rfl, fun _ => (by decide : 0 < 256), fun _ _ => rfl, fun _ _ => rfl⟩, fun p _ hp => absurd rfl hp, fun x _ hx => absurd rfl hx⟩
  exact re_mk (k := 0) h
end A3
end
section
section A3b
variable {r n : Nat} {pt M : Nat → Nat} {xrc xbc xfc xrn xra xfi xfp xgn xac xlr : Int32} {xhm : Int64} {xrp xrA xrB xrC xby xhd xst xbg xco xen xre xld xim xic xih xif xop xbp xbq xsc xna xhe xlo xsk : Nat → Int32} {yru ypl ynu yps yfi yac yre : Int32} {yme : Int64} {yrp yrq yrl yby yle ypr ywa ybp ybq ybo ysc yfn yat yhi ylo yen : Nat → Int32}
theorem i_vc_place {k : Nat} {u : SX} {v : SY} (I : i_Rel k u v) (hk : k + 5 ≤ 2560) : wpX_place (fun r => wpY_place (fun r' => r' = r ∧ i_Rel (k + 5) u v) v) u := by
  have J := I
  obtain ⟨r, n, pt, M, xfc, xrn, xra, xfi, xfp, xgn, xac, xlr, xhm, xrp, xrA, xrB, xrC, xby, xhd, xst, xbg, xco, xen, xre, xld, xim, xic, xih, xif, xop, xbp, xbq, xsc, xna, xhe, xlo, xsk, yps, yfi, yac, yrp, yrq, yrl, yle, ywa, yfn, yat, yhi, ylo, yen, rfl, rfl, h⟩ := I
  exact ⟨rfl, J⟩
theorem i_vc_number {k : Nat} {u : SX} {v : SY} (I : i_Rel k u v) (hk : k + 5 ≤ 2560) : wpX_number (fun r => wpY_number (fun r' => r' = r ∧ i_Rel (k + 5) u v) v) u := by
  have J := I
  obtain ⟨r, n, pt, M, xfc, xrn, xra, xfi, xfp, xgn, xac, xlr, xhm, xrp, xrA, xrB, xrC, xby, xhd, xst, xbg, xco, xen, xre, xld, xim, xic, xih, xif, xop, xbp, xbq, xsc, xna, xhe, xlo, xsk, yps, yfi, yac, yrp, yrq, yrl, yle, ywa, yfn, yat, yhi, ylo, yen, rfl, rfl, h⟩ := I
  exact ⟨rfl, J⟩
theorem i_vc_result {k : Nat} {u : SX} {v : SY} (I : i_Rel k u v) (hk : k + 5 ≤ 2560) : wpX_result (fun r => wpY_result (fun r' => r' = r ∧ i_Rel (k + 5) u v) v) u := by
  have J := I
  obtain ⟨r, n, pt, M, xfc, xrn, xra, xfi, xfp, xgn, xac, xlr, xhm, xrp, xrA, xrB, xrC, xby, xhd, xst, xbg, xco, xen, xre, xld, xim, xic, xih, xif, xop, xbp, xbq, xsc, xna, xhe, xlo, xsk, yps, yfi, yac, yrp, yrq, yrl, yle, ywa, yfn, yat, yhi, ylo, yen, rfl, rfl, h⟩ := I
  exact ⟨rfl, J⟩
theorem i_vc_memory {k : Nat} {u : SX} {v : SY} (I : i_Rel k u v) (hk : k + 5 ≤ 2560) : wpX_memory (fun r => wpY_memory (fun r' => r' = r ∧ i_Rel (k + 5) u v) v) u := by
  have J := I
  obtain ⟨r, n, pt, M, xfc, xrn, xra, xfi, xfp, xgn, xac, xlr, xhm, xrp, xrA, xrB, xrC, xby, xhd, xst, xbg, xco, xen, xre, xld, xim, xic, xih, xif, xop, xbp, xbq, xsc, xna, xhe, xlo, xsk, yps, yfi, yac, yrp, yrq, yrl, yle, ywa, yfn, yat, yhi, ylo, yen, rfl, rfl, h⟩ := I
  exact ⟨rfl, J⟩
end A3b
end
section
section A3c
variable {r n : Nat} {pt M : Nat → Nat} {xrc xbc xfc xrn xra xfi xfp xgn xac xlr : Int32} {xhm : Int64} {xrp xrA xrB xrC xby xhd xst xbg xco xen xre xld xim xic xih xif xop xbp xbq xsc xna xhe xlo xsk : Nat → Int32} {yru ypl ynu yps yfi yac yre : Int32} {yme : Int64} {yrp yrq yrl yby yle ypr ywa ybp ybq ybo ysc yfn yat yhi ylo yen : Nat → Int32}
theorem i_vc_unrule {k : Nat} {u : SX} {v : SY} (I : i_Rel k u v) (hk : k + 5 ≤ 2560) : wpX_unrule (fun r u' => wpY_unrule (fun r' v' => r' = r ∧ i_Rel (k + 5) u' v') v) u := by
  obtain ⟨r, n, pt, M, xfc, xrn, xra, xfi, xfp, xgn, xac, xlr, xhm, xrp, xrA, xrB, xrC, xby, xhd, xst, xbg, xco, xen, xre, xld, xim, xic, xih, xif, xop, xbp, xbq, xsc, xna, xhe, xlo, xsk, yps, yfi, yac, yrp, yrq, yrl, yle, ywa, yfn, yat, yhi, ylo, yen, rfl, rfl, h⟩ := I
  have h12 := h.1.1
  by_cases h0 : r = 0
  · subst h0
    exact br_t nI_0 (br_t nI_0 ⟨rfl, re_mk h⟩)
  · obtain ⟨q, rfl⟩ : ∃ q, r = q + 1 := ⟨r - 1, by omega⟩
    have hz : ¬ nI (q + 1) = 0 := nI_ne0 (by omega) (by omega)
    refine br_f hz (nm_r (nI_pred q) (br_f hz (nm_r (nI_pred q) ⟨rfl, re_mk ⟨⟨by omega, fun i hi => h.1.2 i (by omega)⟩, h.2⟩⟩)))
theorem i_vc_wipe {k : Nat} {u : SX} {v : SY} (I : i_Rel k u v) (hk : k + 5 ≤ 2560) : wpX_wipe (fun r u' => wpY_wipe (fun r' v' => r' = r ∧ i_Rel (k + 5) u' v') v) u := by
  obtain ⟨r, n, pt, M, xfc, xrn, xra, xfi, xfp, xgn, xac, xlr, xhm, xrp, xrA, xrB, xrC, xby, xhd, xst, xbg, xco, xen, xre, xld, xim, xic, xih, xif, xop, xbp, xbq, xsc, xna, xhe, xlo, xsk, yps, yfi, yac, yrp, yrq, yrl, yle, ywa, yfn, yat, yhi, ylo, yen, rfl, rfl, h⟩ := I
  refine nm_e (nm_e ⟨h.2.1.2.1, ?_⟩)
  exact re_mk (n := 0) ⟨h.1, ⟨by omega, pk_us, h.2.1.2.2⟩, h.2.2⟩
theorem i_vc_put {k : Nat} {u : SX} {v : SY} (I : i_Rel k u v) (hk : k + 5 ≤ 2560) (v1 : Int32) : wpX_put (fun r u' => wpY_put (fun r' v' => r' = r ∧ i_Rel (k + 5) u' v') v v1) u v1 := by
  obtain ⟨r, n, pt, M, xfc, xrn, xra, xfi, xfp, xgn, xac, xlr, xhm, xrp, xrA, xrB, xrC, xby, xhd, xst, xbg, xco, xen, xre, xld, xim, xic, xih, xif, xop, xbp, xbq, xsc, xna, xhe, xlo, xsk, yps, yfi, yac, yrp, yrq, yrl, yle, ywa, yfn, yat, yhi, ylo, yen, rfl, rfl, h⟩ := I
  obtain ⟨hR, ⟨hn, hl, hM, hi, hb⟩, hP, hB⟩ := h
  have h : re_I r n pt M xrp xrA xrB xrC xby xld xim xic xih xif xop xbp xbq yrp yrq yrl yle := ⟨hR, ⟨hn, hl, hM, hi, hb⟩, hP, hB⟩
  rcases ba_c v1 (n := 255) (by omega) with z | ⟨z, z1, z2⟩ | ⟨z, z1, z2, j, hj, rfl⟩
  · exact br_t z (br_t z ⟨rfl, re_mk h⟩)
  · exact br_f z (br_t z1 (br_f z (br_t z1 ⟨rfl, re_mk h⟩)))
  · by_cases h1 : n < 120
    · have e0 : nI n < 120 := nI_lt (b := 120) h1 (by decide)
      have e1 : vp_in (nI n) 120 := vp_in_nI h1 (by omega)
      have e2 : ¬ yle 3 = 120 := by rw [hl]; exact ba_ne (b := 120) (by omega) (by omega) (by omega)
      have e4 : 360 + yle 3 = nI (360 + n) := by rw [hl]; exact nI_add 360 n
      have e3 : vp_in (360 + yle 3) 480 := by rw [e4]; exact vp_in_nI (by omega) (by omega)
      have e5 : (nI n).toNatClampNeg = n := nI_clamp (by omega)
      have e6 : (360 + yle 3).toNatClampNeg = 360 + n := by rw [e4]; exact nI_clamp (by omega)
      have e7 : upd (fun i => nI (M i)) (360 + yle 3).toNatClampNeg (nI j) = fun i => nI (um_f M (360 + n) j i) := by rw [e6, um_upd]
      have e8 : upd yle 3 (yle 3 + 1) = upd yle 3 (nI (n + 1)) := by rw [hl, nI_1]
      have e9 : upd xby (nI n).toNatClampNeg (nI j) = upd xby n (nI j) := by rw [e5]
      refine br_f z (br_f z1 (br_t e0 ⟨e1, nm_r e9 (nm_r (nI_1 n) ?_)⟩))
      refine br_f z (br_f z1 (br_f e2 ⟨e3, nm_r e7 (nm_r e8 ⟨rfl, ?_⟩)⟩))
      refine re_mk (M := um_f M (360 + n) j) (n := n + 1) ⟨hR, ⟨by omega, pk_us, ?_, ?_, ?_⟩, ?_, hB⟩
      · intro i
        by_cases e : i = 360 + n
        · subst e; rw [um_s]; omega
        · rw [um_n e]; exact hM i
      · intro i h3
        rw [um_n (by omega)]; exact hi i h3
      · intro i h3
        by_cases e : i = n
        · subst e; rw [pk_us, um_s]
        · rw [pk_un e, um_n (by omega)]; exact hb i h3
      · intro p hp h3
        rw [re_bc fun i h4 => um_n (by omega)]
        exact hP p hp h3
    · have hn' : n = 120 := by omega
      have e0 : ¬ nI n < 120 := nI_nlt (b := 120) (by omega) (by omega)
      have e2 : yle 3 = 120 := by rw [hl, hn']; rfl
      exact br_f z (br_f z1 (br_f e0 (br_f z (br_f z1 (br_t e2 ⟨rfl, re_mk h⟩)))))
end A3c
end
section
section A4
variable {r n : Nat} {pt M : Nat → Nat} {xrc xbc xfc xrn xra xfi xfp xgn xac xlr : Int32} {xhm : Int64} {xrp xrA xrB xrC xby xhd xst xbg xco xen xre xld xim xic xih xif xop xbp xbq xsc xna xhe xlo xsk : Nat → Int32} {yru ypl ynu yps yfi yac yre : Int32} {yme : Int64} {yrp yrq yrl yby yle ypr ywa ybp ybq ybo ysc yfn yat yhi ylo yen : Nat → Int32}
def ru_P (x : Int32) : Prop := ¬ x < 0 ∧ ¬ 7 < x
def ru_G (t a b c : Int32) (r : Nat) : Prop := ¬ t < 0 ∧ ¬ 3 < t ∧ r < 12 ∧ (¬ t ≤ 0 → ru_P a) ∧ (¬ t ≤ 1 → ru_P b) ∧ (¬ t ≤ 2 → ru_P c)
theorem x_isPart {post : Int32 → Prop} {p : Int32} (h1 : ru_P p → post 1) (h0 : ¬ ru_P p → post 0) : wpX_isPart post (xrc, xbc, xfc, xrn, xra, xfi, xfp, xgn, xac, xlr, xhm, xrp, xrA, xrB, xrC, xby, xhd, xst, xbg, xco, xen, xre, xld, xim, xic, xih, xif, xop, xbp, xbq, xsc, xna, xhe, xlo, xsk) p :=
  br_c (fun h => h0 fun g => g.1 h) fun h => br_c (fun h' => h0 fun g => g.2 h') fun h' => h1 ⟨h, h'⟩
theorem x_rule71 {post : Int32 → SX → Prop} {p a b c : Int32} (hr : r < 12) (k : post 1 (nI (r + 1), xbc, xfc, xrn, xra, xfi, xfp, xgn, xac, xlr, xhm, upd xrp r p, upd xrA r a, upd xrB r b, upd xrC r c, xby, xhd, xst, xbg, xco, xen, xre, xld, xim, xic, xih, xif, xop, xbp, xbq, xsc, xna, xhe, xlo, xsk)) :
    wX_rule_71 post p a b c (nI r) xbc xfc xrn xra xfi xfp xgn xac xlr xhm xrp xrA xrB xrC xby xhd xst xbg xco xen xre xld xim xic xih xif xop xbp xbq xsc xna xhe xlo xsk := by
  have e1 : vp_in (nI r) 12 := vp_in_nI hr (by omega)
  have e : (nI r).toNatClampNeg = r := nI_clamp (by omega)
  unfold wX_rule_71
  rw [e]
  exact ⟨e1, nm_e ⟨e1, nm_e ⟨e1, nm_e ⟨e1, nm_e (nm_r (nI_1 r) k)⟩⟩⟩⟩
theorem x_rule {post : Int32 → SX → Prop} {p a b c t : Int32} (ht : p >>> ((1 : Int32) &&& 31) = t) (hr : r ≤ 12)
    (k1 : ru_G t a b c r → post 1 (nI (r + 1), xbc, xfc, xrn, xra, xfi, xfp, xgn, xac, xlr, xhm, upd xrp r p, upd xrA r a, upd xrB r b, upd xrC r c, xby, xhd, xst, xbg, xco, xen, xre, xld, xim, xic, xih, xif, xop, xbp, xbq, xsc, xna, xhe, xlo, xsk))
    (k0 : ¬ ru_G t a b c r → post 0 (nI r, xbc, xfc, xrn, xra, xfi, xfp, xgn, xac, xlr, xhm, xrp, xrA, xrB, xrC, xby, xhd, xst, xbg, xco, xen, xre, xld, xim, xic, xih, xif, xop, xbp, xbq, xsc, xna, xhe, xlo, xsk)) : wpX_rule post (nI r, xbc, xfc, xrn, xra, xfi, xfp, xgn, xac, xlr, xhm, xrp, xrA, xrB, xrC, xby, xhd, xst, xbg, xco, xen, xre, xld, xim, xic, xih, xif, xop, xbp, xbq, xsc, xna, xhe, xlo, xsk) p a b c := by
  unfold wpX_rule
  dsimp only
  refine nm_r ht ?_
  refine br_c (fun h => k0 fun g => g.1 h) fun h1 => br_c (fun h => k0 fun g => g.2.1 h) fun h2 => br_c (fun h3 => ?_) (fun h => k0 fun g => h (nI_lt (b := 12) g.2.2.1 (by decide)))
  have h3' : r < 12 := (nI_ltI (b := 12) (by omega) (by omega)).mp h3
  have s4 : (¬ t ≤ 0 → ru_P a) → (¬ t ≤ 1 → ru_P b) → wX_rule_54 post p a b c t (nI r) xbc xfc xrn xra xfi xfp xgn xac xlr xhm xrp xrA xrB xrC xby xhd xst xbg xco xen xre xld xim xic xih xif xop xbp xbq xsc xna xhe xlo xsk := fun g1 g2 =>
    br_c (fun h => x_rule71 h3' (k1 ⟨h1, h2, h3', g1, g2, fun z => absurd h z⟩)) fun h =>
      x_isPart (fun g => br_f ba_10 (x_rule71 h3' (k1 ⟨h1, h2, h3', g1, g2, fun _ => g⟩))) fun g => br_t rfl (k0 fun G => g (G.2.2.2.2.2 h))
  have s3 : (¬ t ≤ 0 → ru_P a) → wX_rule_40 post p a b c t (nI r) xbc xfc xrn xra xfi xfp xgn xac xlr xhm xrp xrA xrB xrC xby xhd xst xbg xco xen xre xld xim xic xih xif xop xbp xbq xsc xna xhe xlo xsk := fun g1 =>
    br_c (fun h => s4 g1 (fun z => absurd h z)) fun h =>
      x_isPart (fun g => br_f ba_10 (s4 g1 fun _ => g)) fun g => br_t rfl (k0 fun G => g (G.2.2.2.2.1 h))
  exact br_c (fun h => s3 fun z => absurd h z) fun h => x_isPart (fun g => br_f ba_10 (s3 fun _ => g)) fun g => br_t rfl (k0 fun G => g (G.2.2.2.1 h))
theorem y_rule78 {post : Int32 → SY → Prop} {p a b c t : Int32} (hr : r < 12) (k : post 1 (nI (r + 1), ypl, ynu, yps, yfi, yac, yre, yme, upd yrp r t, upd (upd (upd yrq (r * 3) a) (r * 3 + 1) b) (r * 3 + 2) c, upd yrl r (if p &&& 1 = 1 then 1 else 0), yby, yle, ypr, ywa, ybp, ybq, ybo, ysc, yfn, yat, yhi, ylo, yen)) :
    wY_rule_78 post p a b c t (nI r) ypl ynu yps yfi yac yre yme yrp yrq yrl yby yle ypr ywa ybp ybq ybo ysc yfn yat yhi ylo yen := by
  have e1 : vp_in (nI r) 12 := vp_in_nI hr (by omega)
  have e : (nI r).toNatClampNeg = r := nI_clamp (by omega)
  have m : nI r * 3 = nI (r * 3) := pk_mul r 3
  have m1 : nI (r * 3) + 1 = nI (r * 3 + 1) := nI_1 _
  have m2 : nI (r * 3) + 2 = nI (r * 3 + 2) := nI_add _ 2
  have c0 : (nI (r * 3)).toNatClampNeg = r * 3 := nI_clamp (by omega)
  have c1 : (nI (r * 3 + 1)).toNatClampNeg = r * 3 + 1 := nI_clamp (by omega)
  have c2 : (nI (r * 3 + 2)).toNatClampNeg = r * 3 + 2 := nI_clamp (by omega)
  unfold wY_rule_78
  rw [m, m1, m2, e, c0, c1, c2]
  refine ⟨e1, nm_e ⟨vp_in_nI (by omega) (by omega), nm_e ⟨vp_in_nI (by omega) (by omega), nm_e ⟨vp_in_nI (by omega) (by omega), nm_e (br_c (fun h => ?_) fun h => ?_)⟩⟩⟩⟩
  · rw [if_pos h] at k
    unfold wY_rule_150
    rw [e, ba_vb1]
    exact ⟨e1, nm_e (nm_r (nI_1 r) k)⟩
  · rw [if_neg h] at k
    unfold wY_rule_150
    rw [e, ba_vb0]
    exact ⟨e1, nm_e (nm_r (nI_1 r) k)⟩
theorem y_rule {post : Int32 → SY → Prop} {p a b c t : Int32} (ht : p >>> ((1 : Int32) &&& 31) = t) (hr : r ≤ 12)
    (k1 : ru_G t a b c r → post 1 (nI (r + 1), ypl, ynu, yps, yfi, yac, yre, yme, upd yrp r t, upd (upd (upd yrq (r * 3) a) (r * 3 + 1) b) (r * 3 + 2) c, upd yrl r (if p &&& 1 = 1 then 1 else 0), yby, yle, ypr, ywa, ybp, ybq, ybo, ysc, yfn, yat, yhi, ylo, yen))
    (k0 : ¬ ru_G t a b c r → post 0 (nI r, ypl, ynu, yps, yfi, yac, yre, yme, yrp, yrq, yrl, yby, yle, ypr, ywa, ybp, ybq, ybo, ysc, yfn, yat, yhi, ylo, yen)) : wpY_rule post (nI r, ypl, ynu, yps, yfi, yac, yre, yme, yrp, yrq, yrl, yby, yle, ypr, ywa, ybp, ybq, ybo, ysc, yfn, yat, yhi, ylo, yen) p a b c := by
  unfold wpY_rule
  dsimp only
  refine nm_r ht ?_
  refine br_c (fun h => k0 fun g => g.1 h) fun h1 => br_c (fun h => k0 fun g => g.2.1 h) fun h2 => br_c (fun h => k0 fun g => ?_) fun h3 => ?_
  · exact absurd h (ba_ne (b := 12) (by omega) (by omega) (by have := g.2.2.1; omega))
  have h3' : r < 12 := by
    by_cases e : r = 12
    · subst e; exact absurd rfl h3
    · omega
  have s4 : (¬ t ≤ 0 → ru_P a) → (¬ t ≤ 1 → ru_P b) → wY_rule_58 post p a b c t (nI r) ypl ynu yps yfi yac yre yme yrp yrq yrl yby yle ypr ywa ybp ybq ybo ysc yfn yat yhi ylo yen := fun g1 g2 =>
    br_c (fun h => y_rule78 h3' (k1 ⟨h1, h2, h3', g1, g2, fun z => absurd h z⟩)) fun h =>
      br_c (fun z => k0 fun G => (G.2.2.2.2.2 h).1 z) fun z1 => br_c (fun z2 => y_rule78 h3' (k1 ⟨h1, h2, h3', g1, g2, fun _ => ⟨z1, Int32.not_lt.mpr z2⟩⟩)) fun z2 => k0 fun G => z2 (Int32.not_lt.mp (G.2.2.2.2.2 h).2)
  have s3 : (¬ t ≤ 0 → ru_P a) → wY_rule_42 post p a b c t (nI r) ypl ynu yps yfi yac yre yme yrp yrq yrl yby yle ypr ywa ybp ybq ybo ysc yfn yat yhi ylo yen := fun g1 =>
    br_c (fun h => s4 g1 (fun z => absurd h z)) fun h =>
      br_c (fun z => k0 fun G => (G.2.2.2.2.1 h).1 z) fun z1 => br_c (fun z2 => k0 fun G => (G.2.2.2.2.1 h).2 z2) fun z2 => s4 g1 fun _ => ⟨z1, z2⟩
  exact br_c (fun h => s3 fun z => absurd h z) fun h => br_c (fun z => k0 fun G => (G.2.2.2.1 h).1 z) fun z1 => br_c (fun z2 => k0 fun G => (G.2.2.2.1 h).2 z2) fun z2 => s3 fun _ => ⟨z1, z2⟩
theorem i_vc_rule {k : Nat} {u : SX} {v : SY} (I : i_Rel k u v) (hk : k + 5 ≤ 2560) (v1 : Int32) (v2 : Int32) (v3 : Int32) (v4 : Int32) : wpX_rule (fun r u' => wpY_rule (fun r' v' => r' = r ∧ i_Rel (k + 5) u' v') v v1 v2 v3 v4) u v1 v2 v3 v4 := by
  obtain ⟨r, n, pt, M, xfc, xrn, xra, xfi, xfp, xgn, xac, xlr, xhm, xrp, xrA, xrB, xrC, xby, xhd, xst, xbg, xco, xen, xre, xld, xim, xic, xih, xif, xop, xbp, xbq, xsc, xna, xhe, xlo, xsk, yps, yfi, yac, yrp, yrq, yrl, yle, ywa, yfn, yat, yhi, ylo, yen, rfl, rfl, h⟩ := I
  obtain ⟨⟨h12, hR⟩, hh⟩ := h
  refine x_rule rfl h12 (fun G => ?_) fun G => ?_
  · refine y_rule rfl h12 (fun _ => ⟨rfl, ?_⟩) fun z => absurd G z
    obtain ⟨j, hj, ej⟩ := nI_of2 (M := 3) (n := 3) (by decide) G.1 (Int32.not_lt.mp G.2.1)
    have g3 : r < 12 := G.2.2.1
    rw [ej]
    refine re_mk (r := r + 1) (pt := um_f pt r j) ⟨⟨by omega, fun i hi => ?_⟩, hh⟩
    by_cases e : i = r
    · subst e
      rw [um_s, pk_us, pk_us, pk_us, pk_us, pk_us, pk_us, pk_un (show i * 3 ≠ i * 3 + 2 by omega), pk_un (show i * 3 ≠ i * 3 + 1 by omega), pk_us, pk_un (show i * 3 + 1 ≠ i * 3 + 2 by omega), pk_us, pk_us]
      exact ⟨hj, ej, rfl, rfl, rfl, rfl, rfl⟩
    · rw [um_n e, pk_un e, pk_un e, pk_un e, pk_un e, pk_un e, pk_un e, pk_un (show i * 3 ≠ r * 3 + 2 by omega), pk_un (show i * 3 ≠ r * 3 + 1 by omega), pk_un (show i * 3 ≠ r * 3 by omega), pk_un (show i * 3 + 1 ≠ r * 3 + 2 by omega), pk_un (show i * 3 + 1 ≠ r * 3 + 1 by omega), pk_un (show i * 3 + 1 ≠ r * 3 by omega), pk_un (show i * 3 + 2 ≠ r * 3 + 2 by omega), pk_un (show i * 3 + 2 ≠ r * 3 + 1 by omega), pk_un (show i * 3 + 2 ≠ r * 3 by omega)]
      exact hR i (by omega)
  · exact y_rule rfl h12 (fun z => absurd z G) fun _ => ⟨rfl, re_mk ⟨⟨h12, hR⟩, hh⟩⟩
def bo_ok (N : Nat) (o : Nat → Int32) (v : Int32) : Prop := ∃ j, j < N ∧ v = nI j ∧ ¬ o j = 0
theorem x_isBox {post : Int32 → Prop} {v : Int32} (h1 : ∀ j, j < 4 → v = nI j → ¬ xop j = 0 → post 1) (h0 : ¬ bo_ok 4 xop v → post 0) : wpX_isBox post (xrc, xbc, xfc, xrn, xra, xfi, xfp, xgn, xac, xlr, xhm, xrp, xrA, xrB, xrC, xby, xhd, xst, xbg, xco, xen, xre, xld, xim, xic, xih, xif, xop, xbp, xbq, xsc, xna, xhe, xlo, xsk) v := by
  refine br_c (fun h => h0 fun ⟨j, hj, e, _⟩ => nI_pos (n := j) (by omega) (e ▸ h)) fun h => br_c (fun h' => h0 fun ⟨j, hj, e, _⟩ => nI_ge (b := 4) hj (by decide) (e ▸ h')) fun h' => ?_
  obtain ⟨j, hj, rfl⟩ := nI_of h
  have hj4 : j < 4 := by
    have := (not_congr (nI_leI (a := 4) (by omega) hj)).mp h'
    omega
  have e : (nI j).toNatClampNeg = j := nI_clamp hj
  refine ⟨vp_in_nI hj4 (by omega), ?_⟩
  rw [e]
  exact br_c (fun z => h0 fun ⟨i, hi, e', z'⟩ => z' (((nI_eq hj (by omega)).mp e') ▸ z)) fun z => h1 j hj4 rfl z
theorem y_isOpen {post : Int32 → Prop} {v : Int32} (h1 : ∀ j, j < 4 → v = nI j → ¬ ybo j = 0 → post 1) (h0 : ¬ bo_ok 4 ybo v → post 0) : wpY_isOpen post (yru, ypl, ynu, yps, yfi, yac, yre, yme, yrp, yrq, yrl, yby, yle, ypr, ywa, ybp, ybq, ybo, ysc, yfn, yat, yhi, ylo, yen) v := by
  refine br_c (fun h => h0 fun ⟨j, hj, e, _⟩ => nI_pos (n := j) (by omega) (e ▸ h)) fun h => br_c (fun h' => h0 fun ⟨j, hj, e, _⟩ => nI_nlt (a := 3) (b := j) (by omega) (by omega) (e ▸ h')) fun h' => ?_
  obtain ⟨j, hj, rfl⟩ := nI_of h
  have hj4 : j < 4 := by
    have := (not_congr (nI_ltI (a := 3) (by omega) hj)).mp h'
    omega
  have e : (nI j).toNatClampNeg = j := nI_clamp hj
  refine ⟨vp_in_nI hj4 (by omega), ?_⟩
  rw [e]
  exact br_c (fun z => h0 fun ⟨i, hi, e', z'⟩ => z' (((nI_eq hj (by omega)).mp e') ▸ z)) fun z => h1 j hj4 rfl z
theorem x_isPlugin {post : Int32 → Prop} {v : Int32} (h1 : ∀ j, j < 3 → v = nI j → ¬ xld j = 0 → post 1) (h0 : ¬ bo_ok 3 xld v → post 0) : wpX_isPlugin post (xrc, xbc, xfc, xrn, xra, xfi, xfp, xgn, xac, xlr, xhm, xrp, xrA, xrB, xrC, xby, xhd, xst, xbg, xco, xen, xre, xld, xim, xic, xih, xif, xop, xbp, xbq, xsc, xna, xhe, xlo, xsk) v := by
  refine br_c (fun h => h0 fun ⟨j, hj, e, _⟩ => nI_pos (n := j) (by omega) (e ▸ h)) fun h => br_c (fun h' => h0 fun ⟨j, hj, e, _⟩ => nI_ge (b := 3) hj (by decide) (e ▸ h')) fun h' => ?_
  obtain ⟨j, hj, rfl⟩ := nI_of h
  have hj4 : j < 3 := by
    have := (not_congr (nI_leI (a := 3) (by omega) hj)).mp h'
    omega
  have e : (nI j).toNatClampNeg = j := nI_clamp hj
  refine ⟨vp_in_nI hj4 (by omega), ?_⟩
  rw [e]
  exact br_c (fun z => h0 fun ⟨i, hi, e', z'⟩ => z' (((nI_eq hj (by omega)).mp e') ▸ z)) fun z => h1 j hj4 rfl z
theorem y_plug {A B : Prop} {v : Int32} {o : Nat → Int32} (h1 : ∀ j, j < 3 → v = nI j → ¬ o j = 0 → B) (h0 : ¬ bo_ok 3 o v → A) :
    (v < 0 → A) ∧ (¬ v < 0 → ((2 < v → A) ∧ (¬ 2 < v → (vp_in v 4 ∧ ((o v.toNatClampNeg = 0 → A) ∧ (¬ o v.toNatClampNeg = 0 → B)))))) := by
  refine br_c (fun h => h0 fun ⟨j, hj, e, _⟩ => nI_pos (n := j) (by omega) (e ▸ h)) fun h => br_c (fun h' => h0 fun ⟨j, hj, e, _⟩ => nI_nlt (a := 2) (b := j) (by omega) (by omega) (e ▸ h')) fun h' => ?_
  obtain ⟨j, hj, rfl⟩ := nI_of h
  have hj4 : j < 3 := by
    have := (not_congr (nI_ltI (a := 2) (by omega) hj)).mp h'
    omega
  have e : (nI j).toNatClampNeg = j := nI_clamp hj
  refine ⟨vp_in_nI (by omega) (by omega), ?_⟩
  rw [e]
  exact br_c (fun z => h0 fun ⟨i, hi, e', z'⟩ => z' (((nI_eq hj (by omega)).mp e') ▸ z)) fun z => h1 j hj4 rfl z
theorem i_vc_left {k : Nat} {u : SX} {v : SY} (I : i_Rel k u v) (hk : k + 5 ≤ 2560) (v1 : Int32) : wpX_left (fun r => wpY_left (fun r' => r' = r ∧ i_Rel (k + 5) u v) v v1) u v1 := by
  have J := I
  obtain ⟨r, n, pt, M, xfc, xrn, xra, xfi, xfp, xgn, xac, xlr, xhm, xrp, xrA, xrB, xrC, xby, xhd, xst, xbg, xco, xen, xre, xld, xim, xic, xih, xif, xop, xbp, xbq, xsc, xna, xhe, xlo, xsk, yps, yfi, yac, yrp, yrq, yrl, yle, ywa, yfn, yat, yhi, ylo, yen, rfl, rfl, h⟩ := I
  unfold wpX_left wpY_left
  dsimp only
  refine x_isBox (fun j hj e z => ?_) fun z => ?_
  · subst e
    refine br_f ba_10 ⟨vp_in_nI hj (by omega), y_isOpen (fun _ _ _ _ => br_f ba_10 ⟨vp_in_nI hj (by omega), rfl, J⟩) fun z' => absurd ⟨j, hj, rfl, z⟩ z'⟩
  · exact br_t rfl (y_isOpen (fun j hj e z' => absurd ⟨j, hj, e, z'⟩ z) fun _ => br_t rfl ⟨rfl, J⟩)
theorem i_vc_peek {k : Nat} {u : SX} {v : SY} (I : i_Rel k u v) (hk : k + 5 ≤ 2560) (v1 : Int32) (v2 : Int32) : wpX_peek (fun r => wpY_peek (fun r' => r' = r ∧ i_Rel (k + 5) u v) v v1 v2) u v1 v2 := by
  have J := I
  obtain ⟨r, n, pt, M, xfc, xrn, xra, xfi, xfp, xgn, xac, xlr, xhm, xrp, xrA, xrB, xrC, xby, xhd, xst, xbg, xco, xen, xre, xld, xim, xic, xih, xif, xop, xbp, xbq, xsc, xna, xhe, xlo, xsk, yps, yfi, yac, yrp, yrq, yrl, yle, ywa, yfn, yat, yhi, ylo, yen, rfl, rfl, h⟩ := I
  unfold wpX_peek wpY_peek
  dsimp only
  refine x_isBox (fun j hj e z => ?_) fun z => ?_
  · subst e
    refine br_f ba_10 ?_
    have K : ∀ {P : Int32 → Prop}, (br : P 1) → wpY_isOpen P (nI r, xfp, xgn, yps, yfi, yac, xlr, xhm, yrp, yrq, yrl, fun i => nI (M i), yle, xld, ywa, xbp, xbq, xop, xsc, yfn, yat, yhi, ylo, yen) (nI j) := fun br => y_isOpen (fun _ _ _ _ => br) fun z' => absurd ⟨j, hj, rfl, z⟩ z'
    by_cases h0 : v2 < 0
    · exact br_t h0 (K (br_f ba_10 (br_t h0 ⟨rfl, J⟩)))
    · obtain ⟨i, hi, rfl⟩ := nI_of h0
      by_cases h4 : i < 4
      · have e1 : ¬ (4 : Int32) ≤ nI i := nI_ge (b := 4) h4 (by decide)
        have e2 : ¬ (3 : Int32) < nI i := nI_nlt (a := 3) (by omega) (by omega)
        have e3 : nI j * 4 + nI i = nI (j * 4 + i) := by rw [show nI j * 4 = nI (j * 4) from pk_mul j 4, nI_add]
        have e4 : vp_in (nI j * 4 + nI i) 16 := by rw [e3]; exact vp_in_nI (by omega) (by omega)
        exact br_f h0 (br_f e1 ⟨e4, K (br_f ba_10 (br_f h0 (br_f e2 ⟨e4, rfl, J⟩)))⟩)
      · have e1 : (4 : Int32) ≤ nI i := nI_le (a := 4) (by omega) (by omega)
        have e2 : (3 : Int32) < nI i := nI_lt (a := 3) (by omega) (by omega)
        exact br_f h0 (br_t e1 (K (br_f ba_10 (br_f h0 (br_t e2 ⟨rfl, J⟩)))))
  · exact br_t rfl (y_isOpen (fun j hj e z' => absurd ⟨j, hj, e, z'⟩ z) fun _ => br_t rfl ⟨rfl, J⟩)
theorem i_vc_close {k : Nat} {u : SX} {v : SY} (I : i_Rel k u v) (hk : k + 5 ≤ 2560) (v1 : Int32) : wpX_close (fun r u' => wpY_close (fun r' v' => r' = r ∧ i_Rel (k + 5) u' v') v v1) u v1 := by
  obtain ⟨r, n, pt, M, xfc, xrn, xra, xfi, xfp, xgn, xac, xlr, xhm, xrp, xrA, xrB, xrC, xby, xhd, xst, xbg, xco, xen, xre, xld, xim, xic, xih, xif, xop, xbp, xbq, xsc, xna, xhe, xlo, xsk, yps, yfi, yac, yrp, yrq, yrl, yle, ywa, yfn, yat, yhi, ylo, yen, rfl, rfl, h⟩ := I
  unfold wpX_close
  dsimp only
  refine x_isBox (fun j hj e z => ?_) fun z => ?_
  · subst e
    refine br_f ba_10 ⟨vp_in_nI hj (by omega), nm_e ?_⟩
    unfold wpY_close
    dsimp only
    refine y_isOpen (fun _ _ _ _ => br_f ba_10 ⟨vp_in_nI hj (by omega), nm_e ⟨rfl, ?_⟩⟩) fun z' => absurd ⟨j, hj, rfl, z⟩ z'
    refine re_mk ⟨h.1, h.2.1, h.2.2.1, fun x hx hz => ?_⟩
    rw [nI_clamp (by omega), ba_vb0] at hz
    by_cases e : x = j
    · subst e; rw [pk_us] at hz; exact absurd rfl hz
    · rw [pk_un e] at hz; exact h.2.2.2 x hx hz
  · refine br_t rfl ?_
    unfold wpY_close
    dsimp only
    exact y_isOpen (fun j hj e z' => absurd ⟨j, hj, e, z'⟩ z) fun _ => br_t rfl ⟨rfl, re_mk h⟩
end A4
end
section
section A5
variable {r n : Nat} {pt M : Nat → Nat} {xrc xbc xfc xrn xra xfi xfp xgn xac xlr : Int32} {xhm : Int64} {xrp xrA xrB xrC xby xhd xst xbg xco xen xre xld xim xic xih xif xop xbp xbq xsc xna xhe xlo xsk : Nat → Int32} {yru ypl ynu yps yfi yac yre : Int32} {yme : Int64} {yrp yrq yrl yby yle ypr ywa ybp ybq ybo ysc yfn yat yhi ylo yen : Nat → Int32}
/-- k zeros from base on -/
def zz_f (g : Nat → Int32) (base : Nat) : Nat → (Nat → Int32)
  | 0 => g
  | k + 1 => upd (zz_f g base k) (base + k) 0
theorem x_prep24 {post : SX → Prop} {x : Nat} (hx : x < 4) (k : post (xrc, xbc, xfc, xrn, xra, xfi, xfp, xgn, xac, xlr, xhm, xrp, xrA, xrB, xrC, xby, xhd, xst, xbg, xco, xen, xre, xld, xim, xic, xih, xif, xop, xbp, xbq, zz_f xsc (x * 4) 4, xna, xhe, xlo, xsk)) : ∀ d s, s + d = 4 →
    wX_prepareBox_24 post (nI x) xrc xbc xfc xrn xra xfi xfp xgn xac xlr xhm (d + 1) (nI s) xrp xrA xrB xrC xby xhd xst xbg xco xen xre xld xim xic xih xif xop xbp xbq (zz_f xsc (x * 4) s) xna xhe xlo xsk := by
  intro d
  induction d with
  | zero =>
    intro s hs
    have : s = 4 := by omega
    subst this
    exact br_t (nI_le (a := 4) (b := 4) (by omega) (by omega)) k
  | succ d ih =>
    intro s hs
    have e3 : nI x * 4 + nI s = nI (x * 4 + s) := by rw [show nI x * 4 = nI (x * 4) from pk_mul x 4, nI_add]
    have e5 : upd (zz_f xsc (x * 4) s) (nI x * 4 + nI s).toNatClampNeg 0 = zz_f xsc (x * 4) (s + 1) := by rw [e3, nI_clamp (by omega)]; rfl
    refine br_f (nI_ge (b := 4) (by omega) (by decide)) ⟨by rw [e3]; exact vp_in_nI (by omega) (by omega), nm_r e5 (nm_r (nI_1 s) (ih (s + 1) (by omega)))⟩
theorem x_prep {post : SX → Prop} {x : Nat} {p q : Int32} (hx : x < 4) (k : post (xrc, xbc, xfc, xrn, xra, xfi, xfp, xgn, xac, xlr, xhm, xrp, xrA, xrB, xrC, xby, xhd, xst, xbg, xco, xen, xre, xld, xim, xic, xih, xif, upd xop x 1, upd xbp x p, upd xbq x q, zz_f xsc (x * 4) 4, xna, xhe, xlo, xsk)) : wpX_prepareBox post (xrc, xbc, xfc, xrn, xra, xfi, xfp, xgn, xac, xlr, xhm, xrp, xrA, xrB, xrC, xby, xhd, xst, xbg, xco, xen, xre, xld, xim, xic, xih, xif, xop, xbp, xbq, xsc, xna, xhe, xlo, xsk) (nI x) p q := by
  unfold wpX_prepareBox
  dsimp only
  rw [nI_clamp (by omega), ba_vb1]
  have e := vp_in_nI (n := x) (N := 4) hx (by omega)
  exact ⟨e, nm_e ⟨e, nm_e ⟨e, nm_e ⟨5, x_prep24 hx k 4 0 rfl⟩⟩⟩⟩
theorem y_open84 {post : Int32 → SY → Prop} {x : Nat} (hx : x < 4) (k : post (nI x) (yru, ypl, ynu, yps, yfi, yac, yre, yme, yrp, yrq, yrl, yby, yle, ypr, ywa, ybp, ybq, ybo, zz_f ysc (x * 4) 4, yfn, yat, yhi, ylo, yen)) : ∀ d s, s + d = 4 →
    wY_open_84 post (nI x) yru ypl ynu yps yfi yac yre yme (d + 1) (nI s) yrp yrq yrl yby yle ypr ywa ybp ybq ybo (zz_f ysc (x * 4) s) yfn yat yhi ylo yen := by
  intro d
  induction d with
  | zero =>
    intro s hs
    have : s = 4 := by omega
    subst this
    exact br_t (nI_le (a := 4) (b := 4) (by omega) (by omega)) k
  | succ d ih =>
    intro s hs
    have e3 : nI x * 4 + nI s = nI (x * 4 + s) := by rw [show nI x * 4 = nI (x * 4) from pk_mul x 4, nI_add]
    have e5 : upd (zz_f ysc (x * 4) s) (nI x * 4 + nI s).toNatClampNeg 0 = zz_f ysc (x * 4) (s + 1) := by rw [e3, nI_clamp (by omega)]; rfl
    refine br_f (nI_ge (b := 4) (by omega) (by decide)) ⟨by rw [e3]; exact vp_in_nI (by omega) (by omega), nm_r e5 (nm_r (nI_1 s) (ih (s + 1) (by omega)))⟩
theorem x_open23 {post : Int32 → SX → Prop} {p q : Int32} {j : Nat} (hj : j ≤ 4) (hb : ∀ x, x < j → ¬ xop x = 0) (hz : j < 4 → xop j = 0) (k4 : j = 4 → post (-1) (xrc, xbc, xfc, xrn, xra, xfi, xfp, xgn, xac, xlr, xhm, xrp, xrA, xrB, xrC, xby, xhd, xst, xbg, xco, xen, xre, xld, xim, xic, xih, xif, xop, xbp, xbq, xsc, xna, xhe, xlo, xsk))
    (k : j < 4 → post (nI j) (xrc, xbc, xfc, xrn, xra, xfi, xfp, xgn, xac, xlr, xhm, xrp, xrA, xrB, xrC, xby, xhd, xst, xbg, xco, xen, xre, xld, xim, xic, xih, xif, upd xop j 1, upd xbp j p, upd xbq j q, zz_f xsc (j * 4) 4, xna, xhe, xlo, xsk)) : ∀ d x, x + d = j → wX_open_23 post p q xrc xbc xfc xrn xra xfi xfp xgn xac xlr xhm xrp xrA xrB xrC xby xhd xst xbg xco xen xre xld xim xic xih xif xop xbp xbq xsc xna xhe xlo xsk (d + 1) (nI x) := by
  intro d
  induction d with
  | zero =>
    intro x hx
    have : x = j := by omega
    subst this
    by_cases h4 : x = 4
    · exact br_t (by rw [h4]; exact nI_le (a := 4) (b := 4) (by omega) (by omega)) (k4 h4)
    · refine br_f (nI_ge (b := 4) (by omega) (by decide)) ⟨vp_in_nI (by omega) (by omega), ?_⟩
      refine br_t ?_ (x_prep (by omega) (k (by omega)))
      rw [nI_clamp (by omega)]
      exact hz (by omega)
  | succ d ih =>
    intro x hx
    refine br_f (nI_ge (b := 4) (by omega) (by decide)) ⟨vp_in_nI (by omega) (by omega), ?_⟩
    refine br_f ?_ (nm_r (nI_1 x) (ih (x + 1) (by omega)))
    rw [nI_clamp (by omega)]
    exact hb x (by omega)
theorem y_open53 {post : Int32 → SY → Prop} {p q : Int32} {j : Nat} (hj : j ≤ 4) (k4 : j = 4 → post (-1) (yru, ypl, ynu, yps, yfi, yac, yre, yme, yrp, yrq, yrl, yby, yle, ypr, ywa, ybp, ybq, ybo, ysc, yfn, yat, yhi, ylo, yen))
    (k : j < 4 → post (nI j) (yru, ypl, ynu, yps, yfi, yac, yre, yme, yrp, yrq, yrl, yby, yle, ypr, ywa, upd ybp j p, upd ybq j q, upd ybo j 1, zz_f ysc (j * 4) 4, yfn, yat, yhi, ylo, yen)) : wY_open_53 post p q (nI j) yru ypl ynu yps yfi yac yre yme yrp yrq yrl yby yle ypr ywa ybp ybq ybo ysc yfn yat yhi ylo yen := by
  unfold wY_open_53
  by_cases h4 : j = 4
  · exact br_t (by rw [h4]; rfl) (k4 h4)
  · rw [nI_clamp (by omega), ba_vb1]
    have e := vp_in_nI (n := j) (N := 4) (by omega) (by omega)
    exact br_f (ba_ne (b := 4) (by omega) (by omega) h4) ⟨e, nm_e ⟨e, nm_e ⟨e, nm_e ⟨5, y_open84 (by omega) (k (by omega)) 4 0 rfl⟩⟩⟩⟩
theorem y_open33 {post : Int32 → SY → Prop} {p q : Int32} {j : Nat} (hj : j ≤ 4) (hb : ∀ x, x < j → ¬ ybo x = 0) (hz : j < 4 → ybo j = 0) (k4 : j = 4 → post (-1) (yru, ypl, ynu, yps, yfi, yac, yre, yme, yrp, yrq, yrl, yby, yle, ypr, ywa, ybp, ybq, ybo, ysc, yfn, yat, yhi, ylo, yen))
    (k : j < 4 → post (nI j) (yru, ypl, ynu, yps, yfi, yac, yre, yme, yrp, yrq, yrl, yby, yle, ypr, ywa, upd ybp j p, upd ybq j q, upd ybo j 1, zz_f ysc (j * 4) 4, yfn, yat, yhi, ylo, yen)) : ∀ d x, x + d = j → wY_open_33 post p q yru ypl ynu yps yfi yac yre yme yrp yrq yrl yby yle ypr ywa ybp ybq ybo ysc yfn yat yhi ylo yen (d + 1) (nI x) := by
  intro d
  induction d with
  | zero =>
    intro x hx
    have : x = j := by omega
    subst this
    by_cases h4 : x = 4
    · exact br_t (by rw [h4]; exact nI_le (a := 4) (b := 4) (by omega) (by omega)) (y_open53 hj k4 k)
    · refine br_f (nI_ge (b := 4) (by omega) (by decide)) ⟨vp_in_nI (by omega) (by omega), ?_⟩
      refine br_t ?_ (y_open53 hj k4 k)
      rw [nI_clamp (by omega)]
      exact hz (by omega)
  | succ d ih =>
    intro x hx
    refine br_f (nI_ge (b := 4) (by omega) (by decide)) ⟨vp_in_nI (by omega) (by omega), ?_⟩
    refine br_f ?_ (nm_r (nI_1 x) (ih (x + 1) (by omega)))
    rw [nI_clamp (by omega)]
    exact hb x (by omega)
theorem fi_rst (N : Nat) (P : Nat → Prop) : ∃ j, j ≤ N ∧ (∀ x, x < j → ¬ P x) ∧ (j < N → P j) := by
  obtain ⟨j, h1, h2⟩ := pk_least (fun j => j = N ∨ P j) ⟨N, Or.inl rfl⟩
  refine ⟨j, ?_, fun x hx hp => h2 x hx (Or.inr hp), fun hj => ?_⟩
  · by_cases h : N < j
    · exact absurd (Or.inl rfl) (h2 N h)
    · omega
  · rcases h1 with h | h
    · omega
    · exact h
theorem i_vc_open {k : Nat} {u : SX} {v : SY} (I : i_Rel k u v) (hk : k + 5 ≤ 2560) (v1 : Int32) (v2 : Int32) : wpX_open (fun r u' => wpY_open (fun r' v' => r' = r ∧ i_Rel (k + 5) u' v') v v1 v2) u v1 v2 := by
  obtain ⟨r, n, pt, M, xfc, xrn, xra, xfi, xfp, xgn, xac, xlr, xhm, xrp, xrA, xrB, xrC, xby, xhd, xst, xbg, xco, xen, xre, xld, xim, xic, xih, xif, xop, xbp, xbq, xsc, xna, xhe, xlo, xsk, yps, yfi, yac, yrp, yrq, yrl, yle, ywa, yfn, yat, yhi, ylo, yen, rfl, rfl, h⟩ := I
  have J : i_Rel (k + 5) (nI r, nI n, xfc, xrn, xra, xfi, xfp, xgn, xac, xlr, xhm, xrp, xrA, xrB, xrC, xby, xhd, xst, xbg, xco, xen, xre, xld, xim, xic, xih, xif, xop, xbp, xbq, xsc, xna, xhe, xlo, xsk) (nI r, xfp, xgn, yps, yfi, yac, xlr, xhm, yrp, yrq, yrl, fun i => nI (M i), yle, xld, ywa, xbp, xbq, xop, xsc, yfn, yat, yhi, ylo, yen) := re_mk h
  unfold wpX_open
  dsimp only
  refine x_isPlugin (fun p hp e z => ?_) fun z => ?_
  · subst e
    have K : ∀ {P Q : Prop}, Q → _ := fun {P Q} q => y_plug (A := P) (B := Q) (v := nI p) (o := xld) (fun _ _ _ _ => q) fun z' => absurd ⟨p, hp, rfl, z⟩ z'
    refine br_f ba_10 ?_
    unfold wpY_open
    dsimp only
    rcases ba_c v2 (n := 2000) (by omega) with z1 | ⟨z1, z2, z3⟩ | ⟨z1, z2, z3, q, hq, rfl⟩
    · exact br_t z1 (K (br_t z1 ⟨rfl, J⟩))
    · exact br_f z1 (br_f z3 (K (br_f z1 (br_f z3 ⟨rfl, J⟩))))
    · obtain ⟨j, hj, hb, hz⟩ := fi_rst 4 (fun x => xop x = 0)
      refine br_f z1 (br_t z3 ⟨_, x_open23 hj hb hz (fun e => ?_) (fun e => ?_) j 0 (by omega)⟩)
      · exact K (br_f z1 (br_t z3 ⟨_, y_open33 hj hb hz (fun _ => ⟨rfl, J⟩) (fun e' => absurd e (by omega)) j 0 (by omega)⟩))
      · refine K (br_f z1 (br_t z3 ⟨_, y_open33 hj hb hz (fun e' => absurd e (by omega)) (fun _ => ⟨rfl, ?_⟩) j 0 (by omega)⟩))
        refine re_mk ⟨h.1, h.2.1, h.2.2.1, fun x hx hz => ?_⟩
        by_cases e' : x = j
        · subst e'
          exact ⟨p, q, hp, hq, pk_us, z, pk_us⟩
        · rw [pk_un e'] at hz
          rw [pk_un e', pk_un e']
          exact h.2.2.2 x hx hz
  · refine br_t rfl ?_
    unfold wpY_open
    dsimp only
    exact y_plug (fun j hj e z' => absurd ⟨j, hj, e, z'⟩ z) fun _ => ⟨rfl, J⟩
theorem x_unload12 {post : Int32 → SX → Prop} {p j : Nat} (hp : p < 3) (hj : j ≤ 4) (hb : ∀ x, x < j → ¬ (¬ xop x = 0 ∧ xbp x = nI p)) (hz : j < 4 → ¬ xop j = 0 ∧ xbp j = nI p) (k4 : j = 4 → post 1 (xrc, xbc, xfc, xrn, xra, xfi, xfp, xgn, xac, xlr, xhm, xrp, xrA, xrB, xrC, xby, xhd, xst, xbg, xco, xen, xre, upd xld p 0, xim, xic, xih, xif, xop, xbp, xbq, xsc, xna, xhe, xlo, xsk))
    (k : j < 4 → post 0 (xrc, xbc, xfc, xrn, xra, xfi, xfp, xgn, xac, xlr, xhm, xrp, xrA, xrB, xrC, xby, xhd, xst, xbg, xco, xen, xre, xld, xim, xic, xih, xif, xop, xbp, xbq, xsc, xna, xhe, xlo, xsk)) : ∀ d x, x + d = j → wX_unload_12 post (nI p) xrc xbc xfc xrn xra xfi xfp xgn xac xlr xhm xrp xrA xrB xrC xby xhd xst xbg xco xen xre xld xim xic xih xif xop xbp xbq xsc xna xhe xlo xsk (d + 1) (nI x) := by
  intro d
  induction d with
  | zero =>
    intro x hx
    have : x = j := by omega
    subst this
    by_cases h4 : x = 4
    · refine br_t (by rw [h4]; exact nI_le (a := 4) (b := 4) (by omega) (by omega)) ⟨vp_in_nI hp (by omega), nm_r ?_ (k4 h4)⟩
      rw [nI_clamp (by omega), ba_vb0]
    · have hz' := hz (by omega)
      refine br_f (nI_ge (b := 4) (by omega) (by decide)) ⟨vp_in_nI (by omega) (by omega), ?_⟩
      rw [nI_clamp (by omega)]
      exact br_f hz'.1 ⟨vp_in_nI (by omega) (by omega), br_t hz'.2 (k (by omega))⟩
  | succ d ih =>
    intro x hx
    refine br_f (nI_ge (b := 4) (by omega) (by decide)) ⟨vp_in_nI (by omega) (by omega), ?_⟩
    rw [nI_clamp (by omega)]
    refine br_c (fun _ => nm_r (nI_1 x) (ih (x + 1) (by omega))) fun z => ⟨vp_in_nI (by omega) (by omega), br_f (fun z' => hb x (by omega) ⟨z, z'⟩) (nm_r (nI_1 x) (ih (x + 1) (by omega)))⟩
theorem y_unload22 {post : Int32 → SY → Prop} {p j : Nat} (hp : p < 3) (hj : j ≤ 4) (hb : ∀ x, x < j → ¬ (¬ ybo x = 0 ∧ ybp x = nI p)) (hz : j < 4 → ¬ ybo j = 0 ∧ ybp j = nI p) (k4 : j = 4 → post 1 (yru, ypl, ynu, yps, yfi, yac, yre, yme, yrp, yrq, yrl, yby, yle, upd ypr p 0, ywa, ybp, ybq, ybo, ysc, yfn, yat, yhi, ylo, yen))
    (k : j < 4 → post 0 (yru, ypl, ynu, yps, yfi, yac, yre, yme, yrp, yrq, yrl, yby, yle, ypr, ywa, ybp, ybq, ybo, ysc, yfn, yat, yhi, ylo, yen)) : ∀ d x, x + d = j → wY_unload_22 post (nI p) yru ypl ynu yps yfi yac yre yme yrp yrq yrl yby yle ypr ywa ybp ybq ybo ysc yfn yat yhi ylo yen (d + 1) (nI x) := by
  intro d
  induction d with
  | zero =>
    intro x hx
    have : x = j := by omega
    subst this
    by_cases h4 : x = 4
    · refine br_t (by rw [h4]; exact nI_le (a := 4) (b := 4) (by omega) (by omega)) ⟨vp_in_nI (by omega) (by omega), nm_r ?_ (k4 h4)⟩
      rw [nI_clamp (by omega), ba_vb0]
    · have hz' := hz (by omega)
      refine br_f (nI_ge (b := 4) (by omega) (by decide)) ⟨vp_in_nI (by omega) (by omega), ?_⟩
      rw [nI_clamp (by omega)]
      exact br_f hz'.1 ⟨vp_in_nI (by omega) (by omega), br_t hz'.2 (k (by omega))⟩
  | succ d ih =>
    intro x hx
    refine br_f (nI_ge (b := 4) (by omega) (by decide)) ⟨vp_in_nI (by omega) (by omega), ?_⟩
    rw [nI_clamp (by omega)]
    refine br_c (fun _ => nm_r (nI_1 x) (ih (x + 1) (by omega))) fun z => ⟨vp_in_nI (by omega) (by omega), br_f (fun z' => hb x (by omega) ⟨z, z'⟩) (nm_r (nI_1 x) (ih (x + 1) (by omega)))⟩
theorem i_vc_unload {k : Nat} {u : SX} {v : SY} (I : i_Rel k u v) (hk : k + 5 ≤ 2560) (v1 : Int32) : wpX_unload (fun r u' => wpY_unload (fun r' v' => r' = r ∧ i_Rel (k + 5) u' v') v v1) u v1 := by
  obtain ⟨r, n, pt, M, xfc, xrn, xra, xfi, xfp, xgn, xac, xlr, xhm, xrp, xrA, xrB, xrC, xby, xhd, xst, xbg, xco, xen, xre, xld, xim, xic, xih, xif, xop, xbp, xbq, xsc, xna, xhe, xlo, xsk, yps, yfi, yac, yrp, yrq, yrl, yle, ywa, yfn, yat, yhi, ylo, yen, rfl, rfl, h⟩ := I
  have J : i_Rel (k + 5) (nI r, nI n, xfc, xrn, xra, xfi, xfp, xgn, xac, xlr, xhm, xrp, xrA, xrB, xrC, xby, xhd, xst, xbg, xco, xen, xre, xld, xim, xic, xih, xif, xop, xbp, xbq, xsc, xna, xhe, xlo, xsk) (nI r, xfp, xgn, yps, yfi, yac, xlr, xhm, yrp, yrq, yrl, fun i => nI (M i), yle, xld, ywa, xbp, xbq, xop, xsc, yfn, yat, yhi, ylo, yen) := re_mk h
  unfold wpX_unload
  dsimp only
  refine x_isPlugin (fun p hp e z => ?_) fun z => ?_
  · subst e
    obtain ⟨j, hj, hb, hz⟩ := fi_rst 4 (fun x => ¬ xop x = 0 ∧ xbp x = nI p)
    refine br_f ba_10 ⟨_, x_unload12 hp hj hb hz (fun e => ?_) (fun e => ?_) j 0 (by omega)⟩
    · unfold wpY_unload
      dsimp only
      refine y_plug (fun _ _ _ _ => ⟨_, y_unload22 hp hj hb hz (fun _ => ⟨rfl, ?_⟩) (fun e' => absurd e (by omega)) j 0 (by omega)⟩) fun z' => absurd ⟨p, hp, rfl, z⟩ z'
      subst e
      refine re_mk ⟨h.1, h.2.1, fun p' hp' z' => ?_, fun x hx z' => ?_⟩
      · by_cases e : p' = p
        · subst e; rw [pk_us] at z'; exact absurd rfl z'
        · rw [pk_un e] at z'; exact h.2.2.1 p' hp' z'
      · obtain ⟨p', q, h1, h2, h3, h4, h5⟩ := h.2.2.2 x hx z'
        refine ⟨p', q, h1, h2, h3, ?_, h5⟩
        rw [pk_un]
        · exact h4
        · intro e
          subst e
          exact hb x hx ⟨z', h3⟩
    · unfold wpY_unload
      dsimp only
      exact y_plug (fun _ _ _ _ => ⟨_, y_unload22 hp hj hb hz (fun e' => absurd e (by omega)) (fun _ => ⟨rfl, J⟩) j 0 (by omega)⟩) fun z' => absurd ⟨p, hp, rfl, z⟩ z'
  · refine br_t rfl ?_
    unfold wpY_unload
    dsimp only
    exact y_plug (fun j hj e z' => absurd ⟨j, hj, e, z'⟩ z) fun _ => ⟨rfl, J⟩
end A5
end
section
section A6
variable {r n : Nat} {pt M : Nat → Nat} {xrc xbc xfc xrn xra xfi xfp xgn xac xlr : Int32} {xhm : Int64} {xrp xrA xrB xrC xby xhd xst xbg xco xen xre xld xim xic xih xif xop xbp xbq xsc xna xhe xlo xsk : Nat → Int32} {yru ypl ynu yps yfi yac yre : Int32} {yme : Int64} {yrp yrq yrl yby yle ypr ywa ybp ybq ybo ysc yfn yat yhi ylo yen : Nat → Int32}
/-! the policy -/
def po_F (pt : Nat → Nat) (A B C : Nat → Int32) (a b c : Int32) (i : Nat) : Prop := (1 ≤ pt i → A i = a) ∧ (2 ≤ pt i → B i = b) ∧ (3 ≤ pt i → C i = c)
def po_al (q : Nat → Int32) (i : Nat) : Int32 := if (q i) &&& 1 = 1 then 1 else 0
noncomputable def po_f (pt : Nat → Nat) (al : Nat → Int32) (ft : Nat → Prop) : Nat → Nat × Int32
  | 0 => (0, 0)
  | i + 1 => @ite _ ((po_f pt al ft i).1 ≤ pt i + 1 ∧ ft i) (Classical.propDecidable _) (pt i + 1, al i) (po_f pt al ft i)
noncomputable def po_A (pt : Nat → Nat) (q A B C : Nat → Int32) (r : Nat) (a b c : Int32) : Int32 := (po_f pt (po_al q) (po_F pt A B C a b c) r).2
theorem po_al01 (q : Nat → Int32) (i : Nat) : po_al q i = 0 ∨ po_al q i = 1 := by
  unfold po_al; split
  · exact Or.inr rfl
  · exact Or.inl rfl
theorem po_01 (pt : Nat → Nat) (q : Nat → Int32) (ft : Nat → Prop) : ∀ i, (po_f pt (po_al q) ft i).2 = 0 ∨ (po_f pt (po_al q) ft i).2 = 1 := by
  intro i
  induction i with
  | zero => exact Or.inl rfl
  | succ i ih =>
    unfold po_f
    split
    · exact po_al01 q i
    · exact ih
def po_PA (pt : Nat → Nat) (al : Nat → Int32) (S : Nat → Prop) (A : Int32) : Prop :=
  (∃ i, S i ∧ (∀ j, S j → pt j < pt i ∨ (pt j = pt i ∧ j ≤ i)) ∧ A = al i) ∨ ((∀ j, ¬ S j) ∧ A = 0)
theorem po_eq {al : Nat → Int32} {S S' : Nat → Prop} {A : Int32} (e : ∀ j, S j ↔ S' j) (h : po_PA pt al S A) : po_PA pt al S' A := by
  have : S = S' := funext fun j => propext (e j)
  subst this
  exact h
theorem po_un {al : Nat → Int32} {S : Nat → Prop} {A B : Int32} (h : po_PA pt al S A) (h' : po_PA pt al S B) : A = B := by
  rcases h with ⟨i, h1, h2, rfl⟩ | ⟨h1, rfl⟩
  · rcases h' with ⟨j, g1, g2, rfl⟩ | ⟨g1, rfl⟩
    · have := h2 j g1
      have := g2 i h1
      have : i = j := by omega
      rw [this]
    · exact absurd h1 (g1 i)
  · rcases h' with ⟨j, g1, g2, rfl⟩ | ⟨g1, rfl⟩
    · exact absurd g1 (h1 j)
    · rfl
theorem po_fPA (pt : Nat → Nat) (al : Nat → Int32) (ft : Nat → Prop) : ∀ i,
    (∃ m, (m < i ∧ ft m) ∧ (∀ j, (j < i ∧ ft j) → pt j < pt m ∨ (pt j = pt m ∧ j ≤ m)) ∧ po_f pt al ft i = (pt m + 1, al m)) ∨ ((∀ j, ¬ (j < i ∧ ft j)) ∧ po_f pt al ft i = (0, 0)) := by
  intro i
  induction i with
  | zero => exact Or.inr ⟨fun j h => absurd h.1 (by omega), rfl⟩
  | succ i ih =>
    by_cases h : (po_f pt al ft i).1 ≤ pt i + 1 ∧ ft i
    · have e : po_f pt al ft (i + 1) = (pt i + 1, al i) := if_pos h
      refine Or.inl ⟨i, ⟨by omega, h.2⟩, fun j hj => ?_, e⟩
      by_cases ej : j = i
      · subst ej; exact Or.inr ⟨rfl, Nat.le_refl _⟩
      · rcases ih with ⟨m, h1, h2, h3⟩ | ⟨h1, h2⟩
        · have := h2 j ⟨by omega, hj.2⟩
          have h5 := h.1
          rw [h3] at h5
          have : pt m + 1 ≤ pt i + 1 := h5
          omega
        · exact absurd ⟨by omega, hj.2⟩ (h1 j)
    · have e : po_f pt al ft (i + 1) = po_f pt al ft i := if_neg h
      rw [e]
      rcases ih with ⟨m, h1, h2, h3⟩ | ⟨h1, h2⟩
      · refine Or.inl ⟨m, ⟨by omega, h1.2⟩, fun j hj => ?_, h3⟩
        by_cases ej : j = i
        · subst ej
          rw [h3] at h
          have h6 : ¬ (pt m + 1 ≤ pt j + 1) := fun z => h ⟨z, hj.2⟩
          omega
        · exact h2 j ⟨by omega, hj.2⟩
      · refine Or.inr ⟨fun j hj => ?_, h2⟩
        by_cases ej : j = i
        · subst ej
          rw [h2] at h
          exact h ⟨Nat.zero_le _, hj.2⟩
        · exact h1 j ⟨by omega, hj.2⟩
theorem po_fA (pt : Nat → Nat) (al : Nat → Int32) (ft : Nat → Prop) (i : Nat) : po_PA pt al (fun j => j < i ∧ ft j) (po_f pt al ft i).2 := by
  rcases po_fPA pt al ft i with ⟨m, h1, h2, h3⟩ | ⟨h1, h2⟩
  · exact Or.inl ⟨m, h1, h2, by rw [h3]⟩
  · exact Or.inr ⟨h1, by rw [h2]⟩
theorem x_pfit {post : Int32 → Prop} {a b c : Int32} {i : Nat} (hi : i < 12) (hp : pt i ≤ 3) (hs : (xrp i) >>> ((1 : Int32) &&& 31) = nI (pt i))
    (k1 : po_F pt xrA xrB xrC a b c i → post 1) (k0 : ¬ po_F pt xrA xrB xrC a b c i → post 0) : wpX_prefixFits post (xrc, xbc, xfc, xrn, xra, xfi, xfp, xgn, xac, xlr, xhm, xrp, xrA, xrB, xrC, xby, xhd, xst, xbg, xco, xen, xre, xld, xim, xic, xih, xif, xop, xbp, xbq, xsc, xna, xhe, xlo, xsk) (nI i) a b c := by
  unfold wpX_prefixFits
  dsimp only
  have e : (nI i).toNatClampNeg = i := nI_clamp (by omega)
  have v : vp_in (nI i) 12 := vp_in_nI hi (by omega)
  rw [e, hs]
  refine ⟨v, nm_e ?_⟩
  have s3 : (1 ≤ pt i → xrA i = a) → (2 ≤ pt i → xrB i = b) → wX_prefixFits_42 post (nI i) c (nI (pt i)) xrc xbc xfc xrn xra xfi xfp xgn xac xlr xhm xrp xrA xrB xrC xby xhd xst xbg xco xen xre xld xim xic xih xif xop xbp xbq xsc xna xhe xlo xsk := by
    intro g1 g2
    unfold wX_prefixFits_42
    rw [e]
    refine pk_lt (pt i) 3 (fun h => k1 ⟨g1, g2, fun z => absurd z (by omega)⟩) fun h => ⟨v, br_c (fun z => k1 ⟨g1, g2, fun _ => z⟩) fun z => k0 fun G => z (G.2.2 h)⟩
  have s2 : (1 ≤ pt i → xrA i = a) → wX_prefixFits_26 post (nI i) b c (nI (pt i)) xrc xbc xfc xrn xra xfi xfp xgn xac xlr xhm xrp xrA xrB xrC xby xhd xst xbg xco xen xre xld xim xic xih xif xop xbp xbq xsc xna xhe xlo xsk := by
    intro g1
    unfold wX_prefixFits_26
    rw [e]
    refine pk_lt (pt i) 2 (fun h => s3 g1 fun z => absurd z (by omega)) fun h => ⟨v, br_c (fun z => s3 g1 fun _ => z) fun z => k0 fun G => z (G.2.1 h)⟩
  exact pk_lt (pt i) 1 (fun h => s2 fun z => absurd z (by omega)) fun h => ⟨v, br_c (fun z => s2 fun _ => z) fun z => k0 fun G => z (G.1 h)⟩
theorem po_lg {p l : Nat} (hp : p ≤ 3) (hl : l ≤ 4) : nI p < nI l - 1 ↔ p + 1 < l := by
  cases l with
  | zero =>
    have : ¬ nI p < nI 0 - 1 := by
      rw [show nI 0 - 1 = -1 from by decide, Int32.lt_iff_toInt_lt, nI_toInt (by omega), show (-1 : Int32).toInt = -1 from by decide]
      omega
    exact ⟨fun z => absurd z this, fun z => absurd z (by omega)⟩
  | succ m =>
    rw [nI_pred, nI_ltI (by omega) (by omega)]
    omega
theorem po_fl {ft : Nat → Prop} {al : Nat → Int32} {r : Nat} (hp : ∀ i, i < r → pt i ≤ 3) : ∀ i, i ≤ r → (po_f pt al ft i).1 ≤ 4 := by
  intro i
  induction i with
  | zero => intro _; exact Nat.zero_le _
  | succ i ih =>
    intro hi
    unfold po_f
    split
    · have := hp i (by omega)
      show pt i + 1 ≤ 4
      omega
    · exact ih (by omega)
theorem x_permits {post : Int32 → Prop} {a b c : Int32} (hr : r ≤ 12) (hR : ∀ i, i < r → pt i ≤ 3 ∧ (xrp i) >>> ((1 : Int32) &&& 31) = nI (pt i))
    (k : post (po_A pt xrp xrA xrB xrC r a b c)) : wpX_permits post (nI r, xbc, xfc, xrn, xra, xfi, xfp, xgn, xac, xlr, xhm, xrp, xrA, xrB, xrC, xby, xhd, xst, xbg, xco, xen, xre, xld, xim, xic, xih, xif, xop, xbp, xbq, xsc, xna, xhe, xlo, xsk) a b c := by
  have L : ∀ d i, i + d = r → wX_permits_9 post a b c (nI r) xbc xfc xrn xra xfi xfp xgn xac xlr xhm xrp xrA xrB xrC xby xhd xst xbg xco xen xre xld xim xic xih xif xop xbp xbq xsc xna xhe xlo xsk (d + 1) (nI (po_f pt (po_al xrp) (po_F pt xrA xrB xrC a b c) i).1 - 1) (po_f pt (po_al xrp) (po_F pt xrA xrB xrC a b c) i).2 (nI i) := by
    intro d
    induction d with
    | zero =>
      intro i hi
      have : i = r := by omega
      subst this
      exact br_t (nI_le (Nat.le_refl _) (by omega)) ⟨ba_nb (po_01 pt xrp _ _), k⟩
    | succ d ih =>
      intro i hi
      have h := hR i (by omega)
      have hl := po_fl (ft := po_F pt xrA xrB xrC a b c) (al := po_al xrp) (fun i hi => (hR i hi).1) i (by omega)
      have e : (nI i).toNatClampNeg = i := nI_clamp (by omega)
      have v : vp_in (nI i) 12 := vp_in_nI (by omega) (by omega)
      unfold wX_permits_9
      rw [e, h.2]
      have N0 : ¬ ((po_f pt (po_al xrp) (po_F pt xrA xrB xrC a b c) i).1 ≤ pt i + 1 ∧ po_F pt xrA xrB xrC a b c i) → wX_permits_9 post a b c (nI r) xbc xfc xrn xra xfi xfp xgn xac xlr xhm xrp xrA xrB xrC xby xhd xst xbg xco xen xre xld xim xic xih xif xop xbp xbq xsc xna xhe xlo xsk (d + 1) (nI (po_f pt (po_al xrp) (po_F pt xrA xrB xrC a b c) i).1 - 1) (po_f pt (po_al xrp) (po_F pt xrA xrB xrC a b c) i).2 (nI (i + 1)) := by
        intro z
        have := ih (i + 1) (by omega)
        rw [show po_f pt (po_al xrp) (po_F pt xrA xrB xrC a b c) (i + 1) = po_f pt (po_al xrp) (po_F pt xrA xrB xrC a b c) i from if_neg z] at this
        exact this
      refine br_f (nI_ge (by omega) (by omega)) ⟨v, nm_e ?_⟩
      by_cases h1 : pt i + 1 < (po_f pt (po_al xrp) (po_F pt xrA xrB xrC a b c) i).1
      · exact br_t ((po_lg h.1 hl).mpr h1) (nm_r (nI_1 i) (N0 fun z => absurd z.1 (by omega)))
      · refine br_f (fun z => h1 ((po_lg h.1 hl).mp z)) (x_pfit (by omega) h.1 h.2 (fun g => br_f ba_10 ⟨v, ?_⟩) fun g => br_t rfl (nm_r (nI_1 i) (N0 fun z => g z.2)))
        have N1 := ih (i + 1) (by omega)
        rw [show po_f pt (po_al xrp) (po_F pt xrA xrB xrC a b c) (i + 1) = (pt i + 1, po_al xrp i) from if_pos ⟨by omega, g⟩] at N1
        dsimp only at N1
        rw [nI_pred] at N1
        refine br_c (fun z => nm_r (nI_1 i) ?_) fun z => nm_r (nI_1 i) ?_
        · rw [show po_al xrp i = 1 from if_pos z] at N1; exact N1
        · rw [show po_al xrp i = 0 from if_neg z] at N1; exact N1
  exact ⟨_, L r 0 (by omega)⟩
end A6
section A7
variable {r n : Nat} {pt M : Nat → Nat} {xrc xbc xfc xrn xra xfi xfp xgn xac xlr : Int32} {xhm : Int64} {xrp xrA xrB xrC xby xhd xst xbg xco xen xre xld xim xic xih xif xop xbp xbq xsc xna xhe xlo xsk : Nat → Int32} {yru ypl ynu yps yfi yac yre : Int32} {yme : Int64} {yrp yrq yrl yby yle ypr ywa ybp ybq ybo ysc yfn yat yhi ylo yen : Nat → Int32}
/-- what the reference has looked at in round t before rule i -/
def po_S (pt : Nat → Nat) (ft : Nat → Prop) (r t i j : Nat) : Prop := j < r ∧ ft j ∧ (pt j < t ∨ (pt j = t ∧ j < i))
theorem y_al47 {post : Int32 → Prop} {J38 W : Int32 → Int32 → Prop} {a b c A : Int32} {t i : Nat} (hi : i < 12) (ht : t ≤ 3)
    (h0 : yrp i = nI (pt i)) (hp : pt i ≤ 3) (hA : yrq (i * 3) = xrA i) (hB : yrq (i * 3 + 1) = xrB i) (hC : yrq (i * 3 + 2) = xrC i)
    (k1 : pt i = t → po_F pt xrA xrB xrC a b c i → W (yrl i) (nI (i + 1))) (k0 : ¬ (pt i = t ∧ po_F pt xrA xrB xrC a b c i) → W A (nI (i + 1))) :
    (((yrp i) = nI t → (((nI t ≤ 0 → (wY_allows_89 post J38 W a b c A (nI t) (nI i) yru ypl ynu yps yfi yac yre yme yrp yrq yrl yby yle ypr ywa ybp ybq ybo ysc yfn yat yhi ylo yen)) ∧ (¬ nI t ≤ 0 → (vp_in (nI i * 3) 36 ∧ ((((yrq (nI i * 3).toNatClampNeg) = a → (wY_allows_89 post J38 W a b c A (nI t) (nI i) yru ypl ynu yps yfi yac yre yme yrp yrq yrl yby yle ypr ywa ybp ybq ybo ysc yfn yat yhi ylo yen)) ∧ (¬ (yrq (nI i * 3).toNatClampNeg) = a → (∀ x6 : Int32, x6 = nI i + 1 → W A x6))))))))) ∧ (¬ (yrp i) = nI t → (∀ x6 : Int32, x6 = nI i + 1 → W A x6))) := by
  have e : (nI i).toNatClampNeg = i := nI_clamp (by omega)
  have v : vp_in (nI i) 12 := vp_in_nI hi (by omega)
  have m : nI i * 3 = nI (i * 3) := pk_mul i 3
  have m1 : nI (i * 3) + 1 = nI (i * 3 + 1) := nI_1 _
  have m2 : nI (i * 3) + 2 = nI (i * 3 + 2) := nI_add _ 2
  have c0 : (nI (i * 3)).toNatClampNeg = i * 3 := nI_clamp (by omega)
  have c1 : (nI (i * 3 + 1)).toNatClampNeg = i * 3 + 1 := nI_clamp (by omega)
  have c2 : (nI (i * 3 + 2)).toNatClampNeg = i * 3 + 2 := nI_clamp (by omega)
  have v0 : vp_in (nI (i * 3)) 36 := vp_in_nI (by omega) (by omega)
  have v1 : vp_in (nI (i * 3 + 1)) 36 := vp_in_nI (by omega) (by omega)
  have v2 : vp_in (nI (i * 3 + 2)) 36 := vp_in_nI (by omega) (by omega)
  rw [h0, m, c0, hA]
  refine pk_eq (pt i) t (fun et => ?_) (fun et => nm_r (nI_1 i) (k0 fun z => et z.1))
  have s3 : (1 ≤ pt i → xrA i = a) → (2 ≤ pt i → xrB i = b) → wY_allows_110 post J38 W a b c A (nI t) (nI i) yru ypl ynu yps yfi yac yre yme yrp yrq yrl yby yle ypr ywa ybp ybq ybo ysc yfn yat yhi ylo yen := by
    intro g1 g2
    unfold wY_allows_110
    rw [m, m2, c2, hC, e]
    exact pk_le t 2 (fun h => ⟨v, nm_e (nm_r (nI_1 i) (k1 et ⟨g1, g2, fun z => absurd z (by omega)⟩))⟩) fun h => ⟨v2, br_c (fun z => ⟨v, nm_e (nm_r (nI_1 i) (k1 et ⟨g1, g2, fun _ => z⟩))⟩) fun z => nm_r (nI_1 i) (k0 fun G => z (G.2.2.2 (by omega)))⟩
  have s2 : (1 ≤ pt i → xrA i = a) → wY_allows_89 post J38 W a b c A (nI t) (nI i) yru ypl ynu yps yfi yac yre yme yrp yrq yrl yby yle ypr ywa ybp ybq ybo ysc yfn yat yhi ylo yen := by
    intro g1
    unfold wY_allows_89
    rw [m, m1, c1, hB]
    exact pk_le t 1 (fun h => s3 g1 fun z => absurd z (by omega)) fun h => ⟨v1, br_c (fun z => s3 g1 fun _ => z) fun z => nm_r (nI_1 i) (k0 fun G => z (G.2.2.1 (by omega)))⟩
  exact pk_le t 0 (fun h => s2 fun z => absurd z (by omega)) fun h => ⟨v0, br_c (fun z => s2 fun _ => z) fun z => nm_r (nI_1 i) (k0 fun G => z (G.2.1 (by omega)))⟩
theorem y_allows {post : Int32 → Prop} {a b c : Int32} (hR : re_RU r pt xrp xrA xrB xrC yrp yrq yrl) (ha : ru_P a) (hb : ru_P b) (hc : ru_P c)
    (k : post (po_A pt xrp xrA xrB xrC r a b c)) : wpY_allows post (nI r, ypl, ynu, yps, yfi, yac, yre, yme, yrp, yrq, yrl, yby, yle, ypr, ywa, ybp, ybq, ybo, ysc, yfn, yat, yhi, ylo, yen) a b c := by
  obtain ⟨hr, hR⟩ := hR
  refine br_f ha.1 (br_f ha.2 (br_f hb.1 (br_f hb.2 (br_f hc.1 (br_t (Int32.not_lt.mp hc.2) ⟨5, ?_⟩)))))
  have I : ∀ (J38 : Int32 → Int32 → Prop) (t : Nat), t ≤ 3 → (∀ A, po_PA pt (po_al xrp) (po_S pt (po_F pt xrA xrB xrC a b c) r (t + 1) 0) A → J38 A (nI (t + 1))) →
      ∀ d i, i + d = r → ∀ A, po_PA pt (po_al xrp) (po_S pt (po_F pt xrA xrB xrC a b c) r t i) A → wY_allows_47 post J38 a b c (nI t) (nI r) ypl ynu yps yfi yac yre yme yrp yrq yrl yby yle ypr ywa ybp ybq ybo ysc yfn yat yhi ylo yen (d + 1) A (nI i) := by
    intro J38 t ht kJ d
    induction d with
    | zero =>
      intro i hi A hA
      have : i = r := by omega
      subst this
      refine br_t (nI_le (Nat.le_refl _) (by omega)) (nm_r (nI_1 t) (kJ A (po_eq (fun j => ?_) hA)))
      unfold po_S
      exact ⟨fun h => ⟨h.1, h.2.1, by omega⟩, fun h => ⟨h.1, h.2.1, by omega⟩⟩
    | succ d ih =>
      intro i hi A hA
      obtain ⟨h1, h2, h3, h4, h5, h6, h7⟩ := hR i (by omega)
      unfold wY_allows_47
      rw [nI_clamp (show i < 2 ^ 31 by omega)]
      refine br_f (nI_ge (by omega) (by omega)) ⟨vp_in_nI (by omega) (by omega), ?_⟩
      refine y_al47 (W := wY_allows_47 post J38 a b c (nI t) (nI r) ypl ynu yps yfi yac yre yme yrp yrq yrl yby yle ypr ywa ybp ybq ybo ysc yfn yat yhi ylo yen (d + 1)) (by omega) ht h3 h1 h4 h5 h6 (fun g1 g2 => ?_) fun g => ?_
      · refine ih (i + 1) (by omega) _ ?_
        refine Or.inl ⟨i, ⟨by omega, g2, Or.inr ⟨g1, by omega⟩⟩, fun j hj => ?_, h7⟩
        unfold po_S at hj
        omega
      · refine ih (i + 1) (by omega) _ (po_eq (fun j => ?_) hA)
        unfold po_S
        constructor
        · intro h; exact ⟨h.1, h.2.1, by omega⟩
        · intro h
          refine ⟨h.1, h.2.1, ?_⟩
          by_cases ej : j = i
          · subst ej
            by_cases e2 : pt j = t
            · exact absurd ⟨e2, h.2.1⟩ g
            · omega
          · omega
  have O : ∀ e t, t + e = 4 → ∀ A, po_PA pt (po_al xrp) (po_S pt (po_F pt xrA xrB xrC a b c) r t 0) A → wY_allows_38 post a b c (nI r) ypl ynu yps yfi yac yre yme yrp yrq yrl yby yle ypr ywa ybp ybq ybo ysc yfn yat yhi ylo yen (e + 1) A (nI t) := by
    intro e
    induction e with
    | zero =>
      intro t ht A hA
      have : t = 4 := by omega
      subst this
      have e : A = po_A pt xrp xrA xrB xrC r a b c := by
        refine po_un hA (po_eq (fun j => ?_) (po_fA pt (po_al xrp) (po_F pt xrA xrB xrC a b c) r))
        unfold po_S
        constructor
        · intro h
          have := (hR j h.1).1
          exact ⟨h.1, h.2, by omega⟩
        · intro h; exact ⟨h.1, h.2.1⟩
      subst e
      exact br_t (nI_le (a := 4) (b := 4) (by omega) (by omega)) ⟨ba_nb (po_01 pt xrp _ _), k⟩
    | succ e ih =>
      intro t ht A hA
      exact br_f (nI_ge (b := 4) (by omega) (by decide)) ⟨_, I _ t (by omega) (fun A' hA' => ih (t + 1) (by omega) A' hA') r 0 (by omega) A hA⟩
  refine O 4 0 rfl 0 (Or.inr ⟨fun j h => ?_, rfl⟩)
  unfold po_S at h
  omega
theorem y_allows0 {post : Int32 → Prop} {a b c : Int32} (h : ¬ (ru_P a ∧ ru_P b ∧ ru_P c)) (k : post 0) : wpY_allows post (yru, ypl, ynu, yps, yfi, yac, yre, yme, yrp, yrq, yrl, yby, yle, ypr, ywa, ybp, ybq, ybo, ysc, yfn, yat, yhi, ylo, yen) a b c := by
  refine br_c (fun _ => k) fun a1 => br_c (fun _ => k) fun a2 => br_c (fun _ => k) fun b1 => br_c (fun _ => k) fun b2 => br_c (fun _ => k) fun c1 => br_c (fun c2 => ?_) fun _ => k
  exact absurd ⟨⟨a1, a2⟩, ⟨b1, b2⟩, ⟨c1, Int32.not_lt.mpr c2⟩⟩ h
theorem i_vc_allows {k : Nat} {u : SX} {v : SY} (I : i_Rel k u v) (hk : k + 5 ≤ 2560) (v1 : Int32) (v2 : Int32) (v3 : Int32) : wpX_allows (fun r => wpY_allows (fun r' => r' = r ∧ i_Rel (k + 5) u v) v v1 v2 v3) u v1 v2 v3 := by
  have J := I
  obtain ⟨r, n, pt, M, xfc, xrn, xra, xfi, xfp, xgn, xac, xlr, xhm, xrp, xrA, xrB, xrC, xby, xhd, xst, xbg, xco, xen, xre, xld, xim, xic, xih, xif, xop, xbp, xbq, xsc, xna, xhe, xlo, xsk, yps, yfi, yac, yrp, yrq, yrl, yle, ywa, yfn, yat, yhi, ylo, yen, rfl, rfl, h⟩ := I
  unfold wpX_allows
  dsimp only
  refine x_isPart (fun g1 => br_f ba_10 (x_isPart (fun g2 => br_f ba_10 (x_isPart (fun g3 => br_f ba_10 ?_) fun g => br_t rfl ?_)) fun g => br_t rfl ?_)) fun g => br_t rfl ?_
  · refine x_permits h.1.1 (fun i hi => ⟨(h.1.2 i hi).1, (h.1.2 i hi).2.1⟩) ?_
    rcases po_01 pt xrp (po_F pt xrA xrB xrC v1 v2 v3) r with z | z
    · have z' : po_A pt xrp xrA xrB xrC r v1 v2 v3 = 0 := z
      rw [z']
      exact br_t rfl (y_allows h.1 g1 g2 g3 ⟨z', J⟩)
    · have z' : po_A pt xrp xrA xrB xrC r v1 v2 v3 = 1 := z
      rw [z']
      exact br_f ba_10 (y_allows h.1 g1 g2 g3 ⟨z', J⟩)
  · exact y_allows0 (fun z => g z.2.2) ⟨rfl, J⟩
  · exact y_allows0 (fun z => g z.2.1) ⟨rfl, J⟩
  · exact y_allows0 (fun z => g z.1) ⟨rfl, J⟩
end A7
end
section
section A8
variable {r n : Nat} {pt M b : Nat → Nat} {xrc xbc xfc xrn xra xfi xfp xgn xac xlr : Int32} {xhm : Int64} {xrp xrA xrB xrC xby xhd xst xbg xco xen xre xld xim xic xih xif xop xbp xbq xsc xna xhe xlo xsk : Nat → Int32} {yru ypl ynu yps yfi yac yre : Int32} {yme : Int64} {yrp yrq yrl yby yle ypr ywa ybp ybq ybo ysc yfn yat yhi ylo yen : Nat → Int32}
/-! the format: one verdict (finding, place) -/
def ff_s (b : Nat → Nat) (n a lo hi : Nat) (k : Nat × Nat) : Nat × Nat := if n ≤ a then (1, n) else if b a < lo ∨ hi < b a then (2, a) else k
def ff_fn (b : Nat → Nat) (n : Nat) : Nat → Nat → Nat × Nat
  | 0, f => if pl_hd b f = n then (0, 0) else (3, pl_hd b f)
  | d + 1, f => ff_s b n (pl_hd b f) 0 2 (ff_s b n (pl_hd b f + 1) 0 3 (ff_s b n (pl_hd b f + 2) 1 40 (if n < pl_hd b (f + 1) then (1, n) else ff_fn b n d (f + 1))))
def ff_im (b : Nat → Nat) (n : Nat) : Nat → Nat → Nat × Nat
  | 0, i => ff_s b n (2 + i) 1 4 (ff_fn b n (pl_nf b) 0)
  | d + 1, i => ff_s b n (2 + i) 0 7 (ff_im b n d (i + 1))
def ff_v (b : Nat → Nat) (n : Nat) : Nat × Nat := ff_s b n 0 80 80 (ff_s b n 1 0 4 (ff_im b n (3 * b 1) 0))
theorem ff_c (b : Nat → Nat) (n a lo hi : Nat) (k : Nat × Nat) : (a < n ∧ lo ≤ b a ∧ b a ≤ hi ∧ ff_s b n a lo hi k = k) ∨ (n ≤ a ∧ ff_s b n a lo hi k = (1, n)) ∨ (a < n ∧ (b a < lo ∨ hi < b a) ∧ ff_s b n a lo hi k = (2, a)) := by
  unfold ff_s
  by_cases h : n ≤ a
  · exact Or.inr (Or.inl ⟨h, if_pos h⟩)
  · rw [if_neg h]
    by_cases h2 : b a < lo ∨ hi < b a
    · exact Or.inr (Or.inr ⟨by omega, h2, if_pos h2⟩)
    · exact Or.inl ⟨by omega, by omega, by omega, if_neg h2⟩
theorem ff_s0 {b : Nat → Nat} {n a lo hi : Nat} {k : Nat × Nat} (h : (ff_s b n a lo hi k).1 = 0) : a < n ∧ lo ≤ b a ∧ b a ≤ hi ∧ k.1 = 0 := by
  rcases ff_c b n a lo hi k with ⟨h1, h2, h3, e⟩ | ⟨_, e⟩ | ⟨_, _, e⟩
  · rw [e] at h; exact ⟨h1, h2, h3, h⟩
  · rw [e] at h; exact absurd h (by omega)
  · rw [e] at h; exact absurd h (by omega)
theorem ff_fn0 {b : Nat → Nat} {n : Nat} : ∀ d f, (ff_fn b n d f).1 = 0 → pl_hd b (f + d) = n ∧ ∀ g, f ≤ g → g < f + d → b (pl_hd b g) ≤ 2 ∧ b (pl_hd b g + 1) ≤ 3 ∧ 1 ≤ b (pl_hd b g + 2) ∧ b (pl_hd b g + 2) ≤ 40 := by
  intro d
  induction d with
  | zero =>
    intro f h
    unfold ff_fn at h
    by_cases e : pl_hd b f = n
    · exact ⟨e, fun g h1 h2 => absurd h2 (by omega)⟩
    · rw [if_neg e] at h; exact absurd h (by omega)
  | succ d ih =>
    intro f h
    unfold ff_fn at h
    obtain ⟨h1, _, h2, h⟩ := ff_s0 h
    obtain ⟨h3, _, h4, h⟩ := ff_s0 h
    obtain ⟨h5, h6, h7, h⟩ := ff_s0 h
    by_cases e : n < pl_hd b (f + 1)
    · rw [if_pos e] at h; exact absurd h (by omega)
    · rw [if_neg e] at h
      obtain ⟨g1, g2⟩ := ih (f + 1) h
      refine ⟨by rw [show f + (d + 1) = f + 1 + d by omega]; exact g1, fun g hg1 hg2 => ?_⟩
      by_cases eg : g = f
      · subst eg; exact ⟨h2, h4, h6, h7⟩
      · exact g2 g (by omega) (by omega)
theorem ff_im0 {b : Nat → Nat} {n : Nat} : ∀ d i, (ff_im b n d i).1 = 0 → (∀ j, i ≤ j → j < i + d → b (2 + j) ≤ 7) ∧ 1 ≤ b (2 + (i + d)) ∧ b (2 + (i + d)) ≤ 4 ∧ (ff_fn b n (pl_nf b) 0).1 = 0 := by
  intro d
  induction d with
  | zero =>
    intro i h
    unfold ff_im at h
    obtain ⟨_, h2, h3, h4⟩ := ff_s0 h
    exact ⟨fun j _ _ => absurd (show j < i by omega) (by omega), h2, h3, h4⟩
  | succ d ih =>
    intro i h
    unfold ff_im at h
    obtain ⟨_, _, h2, h⟩ := ff_s0 h
    obtain ⟨g1, g2⟩ := ih (i + 1) h
    rw [show i + (d + 1) = i + 1 + d by omega]
    refine ⟨fun j h3 h4 => ?_, g2⟩
    by_cases e : j = i
    · subst e; exact h2
    · exact g1 j (by omega) (by omega)
theorem ff_v0 {b : Nat → Nat} {n : Nat} (h : (ff_v b n).1 = 0) : pl_Fmt b n := by
  unfold ff_v at h
  obtain ⟨_, _, _, h⟩ := ff_s0 h
  obtain ⟨_, _, h1, h⟩ := ff_s0 h
  obtain ⟨h2, h3, h4, h5⟩ := ff_im0 _ _ h
  obtain ⟨h6, h7⟩ := ff_fn0 _ _ h5
  have e : pl_nf b = b (2 + (0 + 3 * b 1)) := by unfold pl_nf; rw [Nat.zero_add]
  refine ⟨h1, fun i hi => h2 i (by omega) (by omega), by rw [e]; exact h3, by rw [e]; exact h4, fun f hf => h7 f (by omega) (by omega), by rw [Nat.zero_add] at h6; exact h6⟩
theorem x_readS {post : Int32 → SX → Prop} {lo hi : Int32} (h : ¬ xfi = 0) (k : post 0 (xrc, xbc, xfc, xrn, xra, xfi, xfp, xgn, xac, xlr, xhm, xrp, xrA, xrB, xrC, xby, xhd, xst, xbg, xco, xen, xre, xld, xim, xic, xih, xif, xop, xbp, xbq, xsc, xna, xhe, xlo, xsk)) : wpX_readNumber post (xrc, xbc, xfc, xrn, xra, xfi, xfp, xgn, xac, xlr, xhm, xrp, xrA, xrB, xrC, xby, xhd, xst, xbg, xco, xen, xre, xld, xim, xic, xih, xif, xop, xbp, xbq, xsc, xna, xhe, xlo, xsk) lo hi := br_f h k
theorem x_read {post : Int32 → SX → Prop} {a lo hi : Nat} {K : Nat × Nat} (hn : n ≤ 120) (hb : ∀ i, i < 120 → xby i = nI (b i)) (hv : ∀ i, b i < 256) (hlo : lo < 256) (hhi : hi < 256) (ha : a < 1000)
    (k0 : a < n → lo ≤ b a → b a ≤ hi → ff_s b n a lo hi K = K → post (nI (b a)) (xrc, nI n, xfc, xrn, nI (a + 1), 0, xfp, xgn, xac, xlr, xhm, xrp, xrA, xrB, xrC, xby, xhd, xst, xbg, xco, xen, xre, xld, xim, xic, xih, xif, xop, xbp, xbq, xsc, xna, xhe, xlo, xsk))
    (k1 : ∀ w p, ¬ nI w = 0 → w ≠ 0 → ff_s b n a lo hi K = (w, p) → post 0 (xrc, nI n, xfc, xrn, nI a, nI w, nI p, xgn, xac, xlr, xhm, xrp, xrA, xrB, xrC, xby, xhd, xst, xbg, xco, xen, xre, xld, xim, xic, xih, xif, xop, xbp, xbq, xsc, xna, xhe, xlo, xsk)) :
    wpX_readNumber post (xrc, nI n, xfc, xrn, nI a, 0, xfp, xgn, xac, xlr, xhm, xrp, xrA, xrB, xrC, xby, xhd, xst, xbg, xco, xen, xre, xld, xim, xic, xih, xif, xop, xbp, xbq, xsc, xna, xhe, xlo, xsk) (nI lo) (nI hi) := by
  unfold wpX_readNumber
  dsimp only
  refine br_t rfl ?_
  rcases ff_c b n a lo hi K with ⟨h1, h2, h3, e⟩ | ⟨h1, e⟩ | ⟨h1, h2, e⟩
  · refine br_t (nI_lt h1 (by omega)) ⟨vp_in_nI (by omega) (by omega), ?_⟩
    rw [nI_clamp (by omega), hb a (by omega)]
    have := hv a
    exact nm_e (br_f (nI_nlt h2 (by omega)) (br_t (nI_le h3 (by omega)) (nm_r (nI_1 a) (k0 h1 h2 h3 e))))
  · exact br_f (nI_nlt h1 (by omega)) (k1 1 n (by decide) (by omega) e)
  · refine br_t (nI_lt h1 (by omega)) ⟨vp_in_nI (by omega) (by omega), ?_⟩
    rw [nI_clamp (by omega), hb a (by omega)]
    have := hv a
    refine nm_e (br_c (fun _ => k1 2 a (by decide) (by omega) e) fun z1 => br_c (fun z2 => ?_) fun _ => k1 2 a (by decide) (by omega) e)
    rw [nI_ltI (by omega) (by omega)] at z1
    rw [nI_leI (by omega) (by omega)] at z2
    exact absurd h2 (by omega)
theorem x_skip56 {post : SX → Prop} {fc : Nat} (hfc : fc ≤ 4) (hw : ¬ xfi = 0) (K : ∀ (xfc xra : Int32) (xhd : Nat → Int32), post (xrc, xbc, xfc, xrn, xra, xfi, xfp, xgn, xac, xlr, xhm, xrp, xrA, xrB, xrC, xby, xhd, xst, xbg, xco, xen, xre, xld, xim, xic, xih, xif, xop, xbp, xbq, xsc, xna, xhe, xlo, xsk)) :
    ∀ d f, f + d = fc → ∀ xhd, wX_checkFormat_56 post (d + 1) (nI f) xrc xbc (nI fc) xrn xra xfi xfp xgn xac xlr xhm xrp xrA xrB xrC xby xhd xst xbg xco xen xre xld xim xic xih xif xop xbp xbq xsc xna xhe xlo xsk := by
  intro d
  induction d with
  | zero =>
    intro f hf xhd
    exact br_t (nI_le (by omega) (by omega)) (br_f hw (K (nI fc) xra xhd))
  | succ d ih =>
    intro f hf xhd
    refine br_f (nI_ge (by omega) (by omega)) ⟨vp_in_nI (by omega) (by omega), nm_e ?_⟩
    refine x_readS hw ?_
    refine x_readS hw ?_
    refine x_readS hw ?_
    refine br_f hw ?_
    exact nm_r (nI_1 f) (ih (f + 1) (by omega) _)
theorem x_skip25 {post : SX → Prop} {c : Nat} (hc : c ≤ 12) (hw : ¬ xfi = 0) (K : ∀ (xfc xra : Int32) (xhd : Nat → Int32), post (xrc, xbc, xfc, xrn, xra, xfi, xfp, xgn, xac, xlr, xhm, xrp, xrA, xrB, xrC, xby, xhd, xst, xbg, xco, xen, xre, xld, xim, xic, xih, xif, xop, xbp, xbq, xsc, xna, xhe, xlo, xsk)) :
    ∀ d i, i + d = c → wX_checkFormat_25 post (nI c) (d + 1) (nI i) xrc xbc xfc xrn xra xfi xfp xgn xac xlr xhm xrp xrA xrB xrC xby xhd xst xbg xco xen xre xld xim xic xih xif xop xbp xbq xsc xna xhe xlo xsk := by
  intro d
  induction d with
  | zero =>
    intro i hi
    refine br_t (nI_le (by omega) (by omega)) ?_
    refine x_readS hw ?_
    exact ⟨1, x_skip56 (fc := 0) (by omega) hw K 0 0 rfl xhd⟩
  | succ d ih =>
    intro i hi
    refine br_f (nI_ge (by omega) (by omega)) ?_
    refine x_readS hw ?_
    exact nm_r (nI_1 i) (ih (i + 1) (by omega))
/-- what the component's format check must give: v the verdict -/
def ff_F (post : SX → Prop) (b : Nat → Nat) (g : Int32 → Int32 → Int32 → Int32 → (Nat → Int32) → SX) (p0 : Int32) (v : Nat × Nat) : Prop :=
  (v.1 = 0 → ∀ (xfc xra : Int32) (xhd : Nat → Int32), xfc = nI (pl_nf b) → (∀ f, f < pl_nf b → xhd f = nI (pl_hd b f)) → post (g xfc xra 0 p0 xhd)) ∧
  (v.1 ≠ 0 → ∀ (xfc xra : Int32) (xhd : Nat → Int32), post (g xfc xra (nI v.1) (nI v.2) xhd))
theorem x_fn56 {post : SX → Prop} (hn : n ≤ 120) (hb : ∀ i, i < 120 → xby i = nI (b i)) (hv : ∀ i, b i < 256) (hF : pl_nf b ≤ 4) :
    ∀ d f, f + d = pl_nf b → (pl_hd b f ≤ n) → ff_F post b (fun xfc xra xfi xfp xhd => (xrc, nI n, xfc, xrn, xra, xfi, xfp, xgn, xac, xlr, xhm, xrp, xrA, xrB, xrC, xby, xhd, xst, xbg, xco, xen, xre, xld, xim, xic, xih, xif, xop, xbp, xbq, xsc, xna, xhe, xlo, xsk)) xfp (ff_fn b n d f) → ∀ xhd, (∀ g, g < f → xhd g = nI (pl_hd b g)) →
      wX_checkFormat_56 post (d + 1) (nI f) xrc (nI n) (nI (pl_nf b)) xrn (nI (pl_hd b f)) 0 xfp xgn xac xlr xhm xrp xrA xrB xrC xby xhd xst xbg xco xen xre xld xim xic xih xif xop xbp xbq xsc xna xhe xlo xsk := by
  intro d
  induction d with
  | zero =>
    intro f hf hle K xhd hh
    refine br_t (nI_le (by omega) (by omega)) (br_t rfl ?_)
    unfold ff_fn at K
    by_cases e : pl_hd b f = n
    · rw [if_pos e] at K
      exact br_t (nI_le (by omega) (by omega)) (K.1 rfl _ _ _ rfl fun g hg => hh g (by omega))
    · rw [if_neg e] at K
      exact br_f (nI_ge (by omega) (by omega)) (K.2 (by omega) _ _ _)
  | succ d ih =>
    intro f hf hle K xhd hh
    have hS : ∀ w p : Nat, ¬ nI w = 0 → (ff_fn b n (d + 1) f = (w, p)) → w ≠ 0 → ∀ (xfc xra : Int32) (xhd : Nat → Int32), post (xrc, nI n, xfc, xrn, xra, nI w, nI p, xgn, xac, xlr, xhm, xrp, xrA, xrB, xrC, xby, xhd, xst, xbg, xco, xen, xre, xld, xim, xic, xih, xif, xop, xbp, xbq, xsc, xna, xhe, xlo, xsk) := by
      intro w p _ e hw xfc xra xhd
      rw [e] at K
      exact K.2 hw _ _ _
    refine br_f (nI_ge (by omega) (by omega)) ⟨vp_in_nI (by omega) (by omega), nm_r (by rw [nI_clamp (by omega)]) ?_⟩
    refine x_read (b := b) (lo := 0) (hi := 2) hn hb hv (by omega) (by omega) (by omega) (K := ff_s b n (pl_hd b f + 1) 0 3 (ff_s b n (pl_hd b f + 2) 1 40 (if n < pl_hd b (f + 1) then (1, n) else ff_fn b n d (f + 1)))) (fun h1 h2 h3 e1 => ?_) (fun w p hz hw e => ?_)
    · refine x_read (b := b) (lo := 0) (hi := 3) hn hb hv (by omega) (by omega) (by omega) (K := (ff_s b n (pl_hd b f + 2) 1 40 (if n < pl_hd b (f + 1) then (1, n) else ff_fn b n d (f + 1)))) (fun h4 h5 h6 e2 => ?_) (fun w p hz hw e => ?_)
      · refine x_read (b := b) (lo := 1) (hi := 40) hn hb hv (by omega) (by omega) (by omega) (K := (if n < pl_hd b (f + 1) then (1, n) else ff_fn b n d (f + 1))) (fun h7 h8 h9 e3 => ?_) (fun w p hz hw e => ?_)
        · have E : ff_fn b n (d + 1) f = if n < pl_hd b (f + 1) then (1, n) else ff_fn b n d (f + 1) := e1.trans (e2.trans e3)
          have ad : nI (pl_hd b f + 1 + 1 + 1) + nI (b (pl_hd b f + 2)) = nI (pl_hd b (f + 1)) := by rw [nI_add]; rfl
          have hb1 : pl_hd b (f + 1) < 1000 := by
            have h9' : b (pl_hd b f + 2) ≤ 40 := h9
            show pl_hd b f + 3 + b (pl_hd b f + 2) < 1000
            omega
          refine br_t rfl ?_
          by_cases e : n < pl_hd b (f + 1)
          · rw [if_pos e] at E
            refine br_f (by rw [show (nI (pl_hd b f + 1 + 1 + 1) + nI (b (pl_hd b f + 1 + 1))) = nI (pl_hd b (f + 1)) from ad]; exact nI_ge e (by omega)) ?_
            exact nm_r (nI_1 f) (x_skip56 hF (by decide) (hS 1 n (by decide) E (by omega)) d (f + 1) (by omega) _)
          · rw [if_neg e] at E
            refine br_t (by rw [show (nI (pl_hd b f + 1 + 1 + 1) + nI (b (pl_hd b f + 1 + 1))) = nI (pl_hd b (f + 1)) from ad]; exact nI_le (by omega) (by omega)) (nm_r ad (nm_r (nI_1 f) ?_))
            refine ih (f + 1) (by omega) (by omega) (by rw [E] at K; exact K) _ (fun g hg => ?_)
            by_cases eg : g = f
            · subst eg; exact pk_us
            · rw [pk_un eg]; exact hh g (by omega)
        · refine br_f hz ?_
          exact nm_r (nI_1 f) (x_skip56 hF hz (hS w p hz (e1.trans (e2.trans e)) hw) d (f + 1) (by omega) _)
      · refine x_readS hz ?_
        refine br_f hz ?_
        exact nm_r (nI_1 f) (x_skip56 hF hz (hS w p hz (e1.trans e) hw) d (f + 1) (by omega) _)
    · refine x_readS hz ?_
      refine x_readS hz ?_
      refine br_f hz ?_
      exact nm_r (nI_1 f) (x_skip56 hF hz (hS w p hz e hw) d (f + 1) (by omega) _)
theorem x_im25 {post : SX → Prop} (hn : n ≤ 120) (hb : ∀ i, i < 120 → xby i = nI (b i)) (hv : ∀ i, b i < 256) (hI : b 1 ≤ 4) :
    ∀ d i, i + d = 3 * b 1 → ff_F post b (fun xfc xra xfi xfp xhd => (xrc, nI n, xfc, xrn, xra, xfi, xfp, xgn, xac, xlr, xhm, xrp, xrA, xrB, xrC, xby, xhd, xst, xbg, xco, xen, xre, xld, xim, xic, xih, xif, xop, xbp, xbq, xsc, xna, xhe, xlo, xsk)) xfp (ff_im b n d i) →
      wX_checkFormat_25 post (nI (3 * b 1)) (d + 1) (nI i) xrc (nI n) xfc xrn (nI (2 + i)) 0 xfp xgn xac xlr xhm xrp xrA xrB xrC xby xhd xst xbg xco xen xre xld xim xic xih xif xop xbp xbq xsc xna xhe xlo xsk := by
  intro d
  induction d with
  | zero =>
    intro i hi K
    have ei : i = 3 * b 1 := by omega
    refine br_t (nI_le (by omega) (by omega)) ?_
    refine x_read (b := b) (lo := 1) (hi := 4) hn hb hv (by omega) (by omega) (by omega) (K := ff_fn b n (pl_nf b) 0) (fun h1 h2 h3 e1 => ?_) (fun w p hz hw e => ?_)
    · have en : b (2 + i) = pl_nf b := by rw [ei]; rfl
      have e2 : ff_im b n 0 i = ff_fn b n (pl_nf b) 0 := e1
      rw [e2] at K
      have h0 : pl_hd b 0 = 2 + i + 1 := by show 3 + 3 * b 1 = _; omega
      rw [en, ← h0]
      exact ⟨_, x_fn56 hn hb hv (by rw [← en]; exact h3) (pl_nf b) 0 (by omega) (by omega) K xhd fun g hg => absurd hg (by omega)⟩
    · have e2 : ff_im b n 0 i = (w, p) := e
      rw [e2] at K
      exact ⟨1, x_skip56 (fc := 0) (by omega) hz (fun xfc xra xhd => K.2 hw _ _ _) 0 0 rfl xhd⟩
  | succ d ih =>
    intro i hi K
    refine br_f (nI_ge (by omega) (by omega)) ?_
    refine x_read (b := b) (lo := 0) (hi := 7) hn hb hv (by omega) (by omega) (by omega) (K := ff_im b n d (i + 1)) (fun h1 h2 h3 e1 => ?_) (fun w p hz hw e => ?_)
    · have e2 : ff_im b n (d + 1) i = ff_im b n d (i + 1) := e1
      rw [e2] at K
      exact nm_r (nI_1 i) (ih (i + 1) (by omega) K)
    · have e2 : ff_im b n (d + 1) i = (w, p) := e
      rw [e2] at K
      exact nm_r (nI_1 i) (x_skip25 (by omega) hz (fun xfc xra xhd => K.2 hw _ _ _) d (i + 1) (by omega))
theorem x_format {post : SX → Prop} (hn : n ≤ 120) (hb : ∀ i, i < 120 → xby i = nI (b i)) (hv : ∀ i, b i < 256)
    (K : ff_F post b (fun xfc xra xfi xfp xhd => (xrc, nI n, xfc, xrn, xra, xfi, xfp, xgn, xac, xlr, xhm, xrp, xrA, xrB, xrC, xby, xhd, xst, xbg, xco, xen, xre, xld, xim, xic, xih, xif, xop, xbp, xbq, xsc, xna, xhe, xlo, xsk)) xfp (ff_v b n)) : wpX_checkFormat post (xrc, nI n, xfc, xrn, xra, 0, xfp, xgn, xac, xlr, xhm, xrp, xrA, xrB, xrC, xby, xhd, xst, xbg, xco, xen, xre, xld, xim, xic, xih, xif, xop, xbp, xbq, xsc, xna, xhe, xlo, xsk) := by
  unfold wpX_checkFormat
  dsimp only
  refine x_read (a := 0) (b := b) (lo := 80) (hi := 80) hn hb hv (by omega) (by omega) (by omega) (K := ff_s b n 1 0 4 (ff_im b n (3 * b 1) 0)) (fun h1 h2 h3 e1 => ?_) (fun w p hz hw e => ?_)
  · refine x_read (a := 1) (b := b) (lo := 0) (hi := 4) hn hb hv (by omega) (by omega) (by omega) (K := ff_im b n (3 * b 1) 0) (fun h4 h5 h6 e2 => ?_) (fun w p hz hw e => ?_)
    · have E : ff_v b n = ff_im b n (3 * b 1) 0 := e1.trans e2
      rw [E] at K
      exact nm_r (show 3 * nI (b 1) = nI (3 * b 1) from pk_mul 3 _) ⟨_, x_im25 hn hb hv h6 (3 * b 1) 0 (by omega) K⟩
    · have E : ff_v b n = (w, p) := e1.trans e
      rw [E] at K
      exact nm_r (show 3 * (0 : Int32) = nI 0 from by decide) ⟨_, x_skip25 (c := 0) (by omega) hz (fun xfc xra xhd => K.2 hw _ _ _) 0 0 rfl⟩
  · have E : ff_v b n = (w, p) := e
    rw [E] at K
    refine x_readS hz ?_
    exact nm_r (show 3 * (0 : Int32) = nI 0 from by decide) ⟨_, x_skip25 (c := 0) (by omega) hz (fun xfc xra xhd => K.2 hw _ _ _) 0 0 rfl⟩
end A8
end
section
section A9
variable {r n : Nat} {pt M b : Nat → Nat} {yru ypl ynu yps yfi yac yre : Int32} {yme : Int64} {yrp yrq yrl yby yle ypr ywa ybp ybq ybo ysc yfn yat yhi ylo yen : Nat → Int32}
/-! the reference's looks at the bytes: p the plugin (3: the one to come), b its bytes -/
theorem y_by {p i : Nat} (hp : p ≤ 3) (hi : i < 120) : (fun i => nI (M i)) (nI (p * 120 + i)).toNatClampNeg = nI (re_b M p i) := by
  rw [nI_clamp (by omega), re_bi hi]
theorem y_b3 {M : Nat → Nat} {i : Nat} (h : i < 120) : M (360 + i) = re_b M 3 i := (re_bi (p := 3) h).symm
theorem y_imports {post : Int32 → Prop} {p : Nat} (hp : p ≤ 3) (k : post (nI (re_b M p 1))) : wpY_imports post (yru, ypl, ynu, yps, yfi, yac, yre, yme, yrp, yrq, yrl, fun i => nI (M i), yle, ypr, ywa, ybp, ybq, ybo, ysc, yfn, yat, yhi, ylo, yen) (nI p) := by
  unfold wpY_imports
  dsimp only
  have e : nI p * 120 + 1 = nI (p * 120 + 1) := by rw [show nI p * 120 = nI (p * 120) from pk_mul p 120, nI_1]
  rw [e, nI_clamp (by omega)]
  rw [re_bi (by omega)] at k
  exact ⟨vp_in_nI (by omega) (by omega), k⟩
theorem y_functions {post : Int32 → Prop} {p : Nat} (hp : p ≤ 3) (h4 : re_b M p 1 ≤ 4) (k : post (nI (pl_nf (re_b M p)))) : wpY_functions post (yru, ypl, ynu, yps, yfi, yac, yre, yme, yrp, yrq, yrl, fun i => nI (M i), yle, ypr, ywa, ybp, ybq, ybo, ysc, yfn, yat, yhi, ylo, yen) (nI p) := by
  unfold wpY_functions
  dsimp only
  have m : nI p * 120 = nI (p * 120) := pk_mul p 120
  have e : nI p * 120 + 1 = nI (p * 120 + 1) := by rw [m, nI_1]
  have e1 : re_b M p 1 = M (p * 120 + 1) := re_bi (by omega)
  have e2 : nI p * 120 + 2 + nI (re_b M p 1) * 3 = nI (p * 120 + (2 + 3 * re_b M p 1)) := by
    rw [m, show nI (p * 120) + 2 = nI (p * 120 + 2) from nI_add _ 2, show nI (re_b M p 1) * 3 = nI (re_b M p 1 * 3) from pk_mul _ 3, nI_add]
    exact congrArg nI (by omega)
  rw [e, nI_clamp (by omega), ← e1, e2, nI_clamp (by omega)]
  unfold pl_nf at k
  rw [re_bi (by omega)] at k
  exact ⟨vp_in_nI (by omega) (by omega), vp_in_nI (by omega) (by omega), k⟩
theorem y_head {post : Int32 → Prop} {p f : Nat} (hp : p ≤ 3) (hf : f ≤ 4) (h4 : re_b M p 1 ≤ 4) (hi : ∀ i, i < f → pl_hd (re_b M p) i + 2 < 120) (k : post (nI (p * 120 + pl_hd (re_b M p) f))) :
    wpY_head post (yru, ypl, ynu, yps, yfi, yac, yre, yme, yrp, yrq, yrl, fun i => nI (M i), yle, ypr, ywa, ybp, ybq, ybo, ysc, yfn, yat, yhi, ylo, yen) (nI p) (nI f) := by
  unfold wpY_head
  dsimp only
  refine y_imports hp ?_
  have m : nI p * 120 = nI (p * 120) := pk_mul p 120
  have e2 : nI p * 120 + 3 + nI (re_b M p 1) * 3 = nI (p * 120 + pl_hd (re_b M p) 0) := by
    rw [m, show nI (p * 120) + 3 = nI (p * 120 + 3) from nI_add _ 3, show nI (re_b M p 1) * 3 = nI (re_b M p 1 * 3) from pk_mul _ 3, nI_add]
    exact congrArg nI (by show _ = p * 120 + (3 + 3 * re_b M p 1); omega)
  refine nm_r e2 ⟨f + 1, ?_⟩
  have L : ∀ d i, i + d = f → wY_head_18 post (nI f) yru ypl ynu yps yfi yac yre yme yrp yrq yrl (fun i => nI (M i)) yle ypr ywa ybp ybq ybo ysc yfn yat yhi ylo yen (d + 1) (nI (p * 120 + pl_hd (re_b M p) i)) (nI i) := by
    intro d
    induction d with
    | zero =>
      intro i hi
      have : i = f := by omega
      subst this
      exact br_t (nI_le (Nat.le_refl _) (by omega)) k
    | succ d ih =>
      intro i hd
      have h2 := hi i (by omega)
      have e3 : nI (p * 120 + pl_hd (re_b M p) i) + 2 = nI (p * 120 + (pl_hd (re_b M p) i + 2)) := by
        rw [show nI (p * 120 + pl_hd (re_b M p) i) + 2 = nI (p * 120 + pl_hd (re_b M p) i + 2) from nI_add _ 2, Nat.add_assoc]
      have e4 : nI (p * 120 + pl_hd (re_b M p) i) + (3 + nI (re_b M p (pl_hd (re_b M p) i + 2))) = nI (p * 120 + pl_hd (re_b M p) (i + 1)) := by
        rw [show 3 + nI (re_b M p (pl_hd (re_b M p) i + 2)) = nI (3 + re_b M p (pl_hd (re_b M p) i + 2)) from nI_add 3 _, nI_add]
        exact congrArg nI (by show _ = p * 120 + (pl_hd (re_b M p) i + 3 + re_b M p (pl_hd (re_b M p) i + 2)); omega)
      unfold wY_head_18
      rw [e3, nI_clamp (by omega), ← re_bi (M := M) (p := p) h2]
      exact br_f (nI_ge (by omega) (by omega)) ⟨vp_in_nI (by omega) (by omega), nm_r e4 (nm_r (nI_1 i) (ih (i + 1) (by omega)))⟩
  exact L f 0 (by omega)
theorem y_codeStart {post : Int32 → Prop} {p f : Nat} (hp : p ≤ 3) (hf : f ≤ 4) (h4 : re_b M p 1 ≤ 4) (hi : ∀ i, i < f → pl_hd (re_b M p) i + 2 < 120) (k : post (nI (p * 120 + pl_s (re_b M p) f))) :
    wpY_codeStart post (yru, ypl, ynu, yps, yfi, yac, yre, yme, yrp, yrq, yrl, fun i => nI (M i), yle, ypr, ywa, ybp, ybq, ybo, ysc, yfn, yat, yhi, ylo, yen) (nI p) (nI f) := by
  unfold wpY_codeStart
  dsimp only
  refine y_head hp hf h4 hi ?_
  rw [show nI (p * 120 + pl_hd (re_b M p) f) + 3 = nI (p * 120 + pl_hd (re_b M p) f + 3) from nI_add _ 3, Nat.add_assoc]
  exact k
theorem y_codeEnd {post : Int32 → Prop} {p f : Nat} (hp : p ≤ 3) (hf : f ≤ 4) (h4 : re_b M p 1 ≤ 4) (hi : ∀ i, i < f + 1 → pl_hd (re_b M p) i + 2 < 120) (k : post (nI (p * 120 + pl_e (re_b M p) f))) :
    wpY_codeEnd post (yru, ypl, ynu, yps, yfi, yac, yre, yme, yrp, yrq, yrl, fun i => nI (M i), yle, ypr, ywa, ybp, ybq, ybo, ysc, yfn, yat, yhi, ylo, yen) (nI p) (nI f) := by
  unfold wpY_codeEnd
  dsimp only
  refine y_head hp hf h4 (fun i h => hi i (by omega)) ?_
  have h2 := hi f (by omega)
  have e3 : nI (p * 120 + pl_hd (re_b M p) f) + 2 = nI (p * 120 + (pl_hd (re_b M p) f + 2)) := by
    rw [show nI (p * 120 + pl_hd (re_b M p) f) + 2 = nI (p * 120 + pl_hd (re_b M p) f + 2) from nI_add _ 2, Nat.add_assoc]
  rw [e3, nI_clamp (by omega), ← re_bi (M := M) (p := p) h2, show nI (p * 120 + pl_hd (re_b M p) f) + 3 = nI (p * 120 + pl_hd (re_b M p) f + 3) from nI_add _ 3, nI_add]
  refine ⟨vp_in_nI (by omega) (by omega), ?_⟩
  rw [show p * 120 + pl_hd (re_b M p) f + 3 + re_b M p (pl_hd (re_b M p) f + 2) = p * 120 + pl_e (re_b M p) f by unfold pl_e; omega]
  exact k
/-! the format once more, by the reference -/
theorem y_read {post : Int32 → SY → Prop} {a lo hi : Nat} {K : Nat × Nat} (hn : n ≤ 120) (hl : yle 3 = nI n) (hv : ∀ i, M i < 256) (hlo : lo < 256) (hhi : hi < 256) (ha : a < 1000)
    (k0 : a < n → lo ≤ re_b M 3 a → re_b M 3 a ≤ hi → ff_s (re_b M 3) n a lo hi K = K → post 1 (yru, ypl, ynu, nI (a + 1), yfi, yac, yre, yme, yrp, yrq, yrl, fun i => nI (M i), yle, ypr, ywa, ybp, ybq, ybo, ysc, yfn, yat, yhi, ylo, yen))
    (k1 : ∀ w p, w ≠ 0 → ff_s (re_b M 3) n a lo hi K = (w, p) → post 0 (yru, nI p, ynu, nI a, nI w, yac, yre, yme, yrp, yrq, yrl, fun i => nI (M i), yle, ypr, ywa, ybp, ybq, ybo, ysc, yfn, yat, yhi, ylo, yen)) :
    wpY_reads post (yru, ypl, ynu, nI a, yfi, yac, yre, yme, yrp, yrq, yrl, fun i => nI (M i), yle, ypr, ywa, ybp, ybq, ybo, ysc, yfn, yat, yhi, ylo, yen) (nI lo) (nI hi) := by
  unfold wpY_reads
  dsimp only
  have e3 : 360 + nI a = nI (360 + a) := nI_add 360 a
  rw [hl, e3]
  rcases ff_c (re_b M 3) n a lo hi K with ⟨h1, h2, h3, e⟩ | ⟨h1, e⟩ | ⟨h1, h2, e⟩
  · refine br_t (nI_lt h1 (by omega)) ⟨vp_in_nI (by omega) (by omega), ?_⟩
    rw [nI_clamp (by omega), y_b3 (M := M) (show a < 120 by omega)]
    exact nm_e (br_f (nI_nlt h2 (by omega)) (br_t (nI_le h3 (by omega)) (nm_r (nI_1 a) (k0 h1 h2 h3 e))))
  · exact br_f (nI_nlt h1 (by omega)) ⟨ba_nb0, k1 1 n (by omega) e⟩
  · refine br_t (nI_lt h1 (by omega)) ⟨vp_in_nI (by omega) (by omega), ?_⟩
    have := hv (360 + a)
    rw [nI_clamp (by omega), y_b3 (M := M) (show a < 120 by omega)]
    have hv' : re_b M 3 a < 256 := by rw [re_bi (show a < 120 by omega)]; exact hv _
    refine nm_e (br_c (fun _ => ⟨ba_nb0, k1 2 a (by omega) e⟩) fun z1 => br_c (fun z2 => ?_) fun _ => ⟨ba_nb0, k1 2 a (by omega) e⟩)
    rw [nI_ltI (by omega) (by omega)] at z1
    rw [nI_leI (by omega) (by omega)] at z2
    exact absurd h2 (by omega)
def ff_G (post : Int32 → SY → Prop) (g : Int32 → Int32 → Int32 → SY) (p0 f0 : Int32) (v : Nat × Nat) : Prop :=
  (v.1 = 0 → ∀ yps : Int32, post 1 (g p0 yps f0)) ∧ (v.1 ≠ 0 → ∀ yps : Int32, post 0 (g (nI v.2) yps (nI v.1)))
theorem y_fn79 {post : Int32 → SY → Prop} (hn : n ≤ 120) (hl : yle 3 = nI n) (hv : ∀ i, M i < 256) (hF : pl_nf (re_b M 3) ≤ 4) :
    ∀ d f, f + d = pl_nf (re_b M 3) → (pl_hd (re_b M 3) f ≤ n) → ff_G post (fun ypl yps yfi => (yru, ypl, ynu, yps, yfi, yac, yre, yme, yrp, yrq, yrl, fun i => nI (M i), yle, ypr, ywa, ybp, ybq, ybo, ysc, yfn, yat, yhi, ylo, yen)) ypl yfi (ff_fn (re_b M 3) n d f) →
      wY_format_79 post (nI (pl_nf (re_b M 3))) (d + 1) (nI f) yru ypl ynu (nI (pl_hd (re_b M 3) f)) yfi yac yre yme yrp yrq yrl (fun i => nI (M i)) yle ypr ywa ybp ybq ybo ysc yfn yat yhi ylo yen := by
  intro d
  induction d with
  | zero =>
    intro f hf hle K
    refine br_t (nI_le (by omega) (by omega)) ?_
    unfold ff_fn at K
    rw [hl]
    by_cases e : pl_hd (re_b M 3) f = n
    · rw [if_pos e] at K
      rw [e]
      exact br_t rfl (K.1 rfl _)
    · rw [if_neg e] at K
      exact br_f (ba_ne (by omega) (by omega) e) (br_t rfl (K.2 (by omega) _))
  | succ d ih =>
    intro f hf hle K
    have hS : ∀ w p : Nat, (ff_fn (re_b M 3) n (d + 1) f = (w, p)) → w ≠ 0 → ∀ yps : Int32, post 0 (yru, nI p, ynu, yps, nI w, yac, yre, yme, yrp, yrq, yrl, fun i => nI (M i), yle, ypr, ywa, ybp, ybq, ybo, ysc, yfn, yat, yhi, ylo, yen) := by
      intro w p e hw yps
      rw [e] at K
      exact K.2 hw _
    refine br_f (nI_ge (by omega) (by omega)) ?_
    refine y_read (lo := 0) (hi := 2) hn hl hv (by omega) (by omega) (by omega) (K := ff_s (re_b M 3) n (pl_hd (re_b M 3) f + 1) 0 3 (ff_s (re_b M 3) n (pl_hd (re_b M 3) f + 2) 1 40 (if n < pl_hd (re_b M 3) (f + 1) then (1, n) else ff_fn (re_b M 3) n d (f + 1)))) (fun h1 h2 h3 e1 => ?_) (fun w p hw e => br_t rfl (hS w p e hw _))
    refine br_f ba_10 ?_
    refine y_read (lo := 0) (hi := 3) hn hl hv (by omega) (by omega) (by omega) (K := (ff_s (re_b M 3) n (pl_hd (re_b M 3) f + 2) 1 40 (if n < pl_hd (re_b M 3) (f + 1) then (1, n) else ff_fn (re_b M 3) n d (f + 1)))) (fun h4 h5 h6 e2 => ?_) (fun w p hw e => br_t rfl (hS w p (e1.trans e) hw _))
    refine br_f ba_10 ?_
    refine y_read (lo := 1) (hi := 40) hn hl hv (by omega) (by omega) (by omega) (K := (if n < pl_hd (re_b M 3) (f + 1) then (1, n) else ff_fn (re_b M 3) n d (f + 1))) (fun h7 h8 h9 e3 => ?_) (fun w p hw e => br_t rfl (hS w p (e1.trans (e2.trans e)) hw _))
    refine br_f ba_10 ?_
    have E : ff_fn (re_b M 3) n (d + 1) f = if n < pl_hd (re_b M 3) (f + 1) then (1, n) else ff_fn (re_b M 3) n d (f + 1) := e1.trans (e2.trans e3)
    have hb1 : pl_hd (re_b M 3) (f + 1) < 1000 := by
      have h9' : re_b M 3 (pl_hd (re_b M 3) f + 2) ≤ 40 := h9
      show pl_hd (re_b M 3) f + 3 + re_b M 3 (pl_hd (re_b M 3) f + 2) < 1000
      omega
    have e4 : 360 + nI (pl_hd (re_b M 3) f + 1 + 1 + 1) - 1 = nI (360 + (pl_hd (re_b M 3) f + 2)) := by
      rw [show 360 + nI (pl_hd (re_b M 3) f + 1 + 1 + 1) = nI (360 + (pl_hd (re_b M 3) f + 2) + 1) from nI_add 360 _, nI_pred]
    have e5 : nI (pl_hd (re_b M 3) f + 1 + 1 + 1) + nI (re_b M 3 (pl_hd (re_b M 3) f + 2)) = nI (pl_hd (re_b M 3) (f + 1)) := by rw [nI_add]; rfl
    refine ⟨by rw [e4]; exact vp_in_nI (by omega) (by omega), nm_r (e' := nI (pl_hd (re_b M 3) (f + 1))) ?_ ?_⟩
    · dsimp only
      rw [e4, nI_clamp (by omega), ← e5, y_b3 (M := M) (show pl_hd (re_b M 3) f + 2 < 120 by omega)]
    · rw [hl]
      by_cases e : n < pl_hd (re_b M 3) (f + 1)
      · rw [if_pos e] at E
        exact br_f (nI_ge e (by omega)) ⟨ba_nb0, hS 1 n E (by omega) _⟩
      · rw [if_neg e] at E
        exact br_t (nI_le (by omega) (by omega)) (nm_r (nI_1 f) (ih (f + 1) (by omega) (by omega) (by rw [E] at K; exact K)))
theorem y_im37 {post : Int32 → SY → Prop} (hn : n ≤ 120) (hl : yle 3 = nI n) (hv : ∀ i, M i < 256) (hI : re_b M 3 1 ≤ 4) :
    ∀ d i, i + d = 3 * re_b M 3 1 → ff_G post (fun ypl yps yfi => (yru, ypl, ynu, yps, yfi, yac, yre, yme, yrp, yrq, yrl, fun i => nI (M i), yle, ypr, ywa, ybp, ybq, ybo, ysc, yfn, yat, yhi, ylo, yen)) ypl yfi (ff_im (re_b M 3) n d i) →
      wY_format_37 post (nI (3 * re_b M 3 1)) (d + 1) (nI i) yru ypl ynu (nI (2 + i)) yfi yac yre yme yrp yrq yrl (fun i => nI (M i)) yle ypr ywa ybp ybq ybo ysc yfn yat yhi ylo yen := by
  intro d
  induction d with
  | zero =>
    intro i hi K
    have ei : i = 3 * re_b M 3 1 := by omega
    refine br_t (nI_le (by omega) (by omega)) ?_
    refine y_read (lo := 1) (hi := 4) hn hl hv (by omega) (by omega) (by omega) (K := ff_fn (re_b M 3) n (pl_nf (re_b M 3)) 0) (fun h1 h2 h3 e1 => ?_) (fun w p hw e => ?_)
    · have en : re_b M 3 (2 + i) = pl_nf (re_b M 3) := by rw [ei]; rfl
      have e2 : ff_im (re_b M 3) n 0 i = ff_fn (re_b M 3) n (pl_nf (re_b M 3)) 0 := e1
      rw [e2] at K
      have h0 : pl_hd (re_b M 3) 0 = 2 + i + 1 := by show 3 + 3 * re_b M 3 1 = _; omega
      refine br_f ba_10 (y_functions (p := 3) (by omega) hI ?_)
      rw [← h0]
      exact ⟨_, y_fn79 hn hl hv (by rw [← en]; exact h3) (pl_nf (re_b M 3)) 0 (by omega) (by omega) K⟩
    · have e2 : ff_im (re_b M 3) n 0 i = (w, p) := e
      rw [e2] at K
      exact br_t rfl (K.2 hw _)
  | succ d ih =>
    intro i hi K
    refine br_f (nI_ge (by omega) (by omega)) ?_
    refine y_read (lo := 0) (hi := 7) hn hl hv (by omega) (by omega) (by omega) (K := ff_im (re_b M 3) n d (i + 1)) (fun h1 h2 h3 e1 => ?_) (fun w p hw e => ?_)
    · have e2 : ff_im (re_b M 3) n (d + 1) i = ff_im (re_b M 3) n d (i + 1) := e1
      rw [e2] at K
      exact br_f ba_10 (nm_r (nI_1 i) (ih (i + 1) (by omega) K))
    · have e2 : ff_im (re_b M 3) n (d + 1) i = (w, p) := e
      rw [e2] at K
      exact br_t rfl (K.2 hw _)
theorem y_format {post : Int32 → SY → Prop} (hn : n ≤ 120) (hl : yle 3 = nI n) (hv : ∀ i, M i < 256)
    (K : ff_G post (fun ypl yps yfi => (yru, ypl, ynu, yps, yfi, yac, yre, yme, yrp, yrq, yrl, fun i => nI (M i), yle, ypr, ywa, ybp, ybq, ybo, ysc, yfn, yat, yhi, ylo, yen)) ypl yfi (ff_v (re_b M 3) n)) : wpY_format post (yru, ypl, ynu, yps, yfi, yac, yre, yme, yrp, yrq, yrl, fun i => nI (M i), yle, ypr, ywa, ybp, ybq, ybo, ysc, yfn, yat, yhi, ylo, yen) := by
  unfold wpY_format
  dsimp only
  refine y_read (a := 0) (lo := 80) (hi := 80) hn hl hv (by omega) (by omega) (by omega) (K := ff_s (re_b M 3) n 1 0 4 (ff_im (re_b M 3) n (3 * re_b M 3 1) 0)) (fun h1 h2 h3 e1 => ?_) (fun w p hw e => ?_)
  · refine br_f ba_10 ?_
    refine y_read (a := 1) (lo := 0) (hi := 4) hn hl hv (by omega) (by omega) (by omega) (K := ff_im (re_b M 3) n (3 * re_b M 3 1) 0) (fun h4 h5 h6 e2 => ?_) (fun w p hw e => ?_)
    · have E : ff_v (re_b M 3) n = ff_im (re_b M 3) n (3 * re_b M 3 1) 0 := e1.trans e2
      rw [E] at K
      refine br_f ba_10 (y_imports (p := 3) (by omega) (nm_r (e' := nI (3 * re_b M 3 1)) ?_ ⟨_, y_im37 hn hl hv h6 (3 * re_b M 3 1) 0 (by omega) K⟩))
      rw [show nI (re_b M 3 1) * 3 = nI (re_b M 3 1 * 3) from pk_mul _ 3, Nat.mul_comm]
    · have E : ff_v (re_b M 3) n = (w, p) := e1.trans e
      rw [E] at K
      exact br_t rfl (K.2 hw _)
  · have E : ff_v (re_b M 3) n = (w, p) := e
    rw [E] at K
    exact br_t rfl (K.2 hw _)
end A9
end
section
section B1
variable {r n : Nat} {pt M b : Nat → Nat} {xrc xbc xfc xrn xra xfi xfp xgn xac xlr : Int32} {xhm : Int64} {xrp xrA xrB xrC xby xhd xst xbg xco xen xre xld xim xic xih xif xop xbp xbq xsc xna xhe xlo xsk : Nat → Int32} {yru ypl ynu yps yfi yac yre : Int32} {yme : Int64} {yrp yrq yrl yby yle ypr ywa ybp ybq ybo ysc yfn yat yhi ylo yen : Nat → Int32}
/-! bounds out of the format -/
theorem pl_hd_le (b : Nat → Nat) : ∀ g f, g ≤ f → pl_hd b g ≤ pl_hd b f := by
  intro g f h
  induction f with
  | zero => have : g = 0 := by omega
            subst this; exact Nat.le_refl _
  | succ f ih =>
    by_cases e : g = f + 1
    · subst e; exact Nat.le_refl _
    · have := ih (by omega)
      show _ ≤ pl_hd b f + 3 + b (pl_hd b f + 2)
      omega
theorem pl_ef {b : Nat → Nat} {n f : Nat} (h : pl_Fmt b n) (hf : f < pl_nf b) : pl_e b f ≤ n := by
  have := pl_hd_le b (f + 1) (pl_nf b) (by omega)
  have h2 := h.2.2.2.2.2
  rw [pl_e_hd]
  omega
theorem pl_hf {b : Nat → Nat} {n f : Nat} (h : pl_Fmt b n) (hf : f < pl_nf b) : pl_hd b f + 3 < pl_e b f := by
  have := (h.2.2.2.2.1 f hf).2.2.1
  unfold pl_e
  omega
theorem pl_sf {b : Nat → Nat} {n f : Nat} (h : pl_Fmt b n) (hf : f < pl_nf b) : pl_s b f < pl_e b f := pl_hf h hf
theorem pl_sl {b : Nat → Nat} {n f : Nat} (h : pl_Fmt b n) (hf : f < pl_nf b) : pl_e b f ≤ pl_s b f + 40 := by
  have := (h.2.2.2.2.1 f hf).2.2.2
  unfold pl_e pl_s
  omega
/-- different functions' instructions lie apart -/
theorem pl_apart {b : Nat → Nat} {f g i : Nat} (h1 : pl_s b f ≤ i) (h2 : i < pl_e b f) (h3 : pl_s b g ≤ i) (h4 : i < pl_e b g) : f = g := by
  by_cases h : f < g
  · have := pl_hd_le b (f + 1) g (by omega)
    have e : pl_e b f = pl_hd b (f + 1) := rfl
    have e2 : pl_s b g = pl_hd b g + 3 := rfl
    omega
  · by_cases h' : g < f
    · have := pl_hd_le b (g + 1) f (by omega)
      have e : pl_e b g = pl_hd b (g + 1) := rfl
      have e2 : pl_s b f = pl_hd b f + 3 := rfl
      omega
    · omega
theorem c17 {c : Nat} (h : c ≤ 16) : c = 0 ∨ c = 1 ∨ c = 2 ∨ c = 3 ∨ c = 4 ∨ c = 5 ∨ c = 6 ∨ c = 7 ∨ c = 8 ∨ c = 9 ∨ c = 10 ∨ c = 11 ∨ c = 12 ∨ c = 13 ∨ c = 14 ∨ c = 15 ∨ c = 16 := by omega
theorem pl_sz2 {c : Nat} : pl_sz c = 2 ↔ (c ≤ 2 ∨ (10 ≤ c ∧ c ≤ 15)) := by
  unfold pl_sz
  split
  · exact ⟨fun _ => by assumption, fun _ => rfl⟩
  · exact ⟨fun z => absurd z (by omega), fun z => absurd z (by assumption)⟩
theorem pl_sz1 {c : Nat} : pl_sz c = 1 ↔ ¬ (c ≤ 2 ∨ (10 ≤ c ∧ c ≤ 15)) := by
  rw [← pl_sz2]
  have := pl_sz_pos c
  omega
theorem w_wide {post : Int32 → Prop} {c : Nat} (hc : c < 256) (k1 : pl_sz c = 2 → post 1) (k0 : pl_sz c = 1 → post 0) : ((nI c ≤ 2 → (post 1)) ∧ (¬ nI c ≤ 2 → (((nI c < 10 → (post 0)) ∧ (¬ nI c < 10 → (((15 < nI c → (post 0)) ∧ (¬ 15 < nI c → (post 1))))))))) :=
  pk_le c 2 (fun h => k1 (pl_sz2.mpr (by omega))) fun h => pk_lt c 10 (fun h2 => k0 (pl_sz1.mpr (by omega))) fun h2 => pk_lt 15 c (fun h3 => k0 (pl_sz1.mpr (by omega))) fun h3 => k1 (pl_sz2.mpr (by omega))
theorem x_hasOp {post : Int32 → Prop} {c : Nat} (hc : c < 256) (k1 : pl_sz c = 2 → post 1) (k0 : pl_sz c = 1 → post 0) : wpX_hasOperand post (xrc, xbc, xfc, xrn, xra, xfi, xfp, xgn, xac, xlr, xhm, xrp, xrA, xrB, xrC, xby, xhd, xst, xbg, xco, xen, xre, xld, xim, xic, xih, xif, xop, xbp, xbq, xsc, xna, xhe, xlo, xsk) (nI c) := w_wide hc k1 k0
theorem y_wide {post : Int32 → Prop} {c : Nat} (hc : c < 256) (k1 : pl_sz c = 2 → post 1) (k0 : pl_sz c = 1 → post 0) : wpY_wide post (nI c) := w_wide hc k1 k0
theorem x_sizeOf {post : Int32 → Prop} {c : Nat} (hc : c < 256) (k : post (nI (pl_sz c))) : wpX_sizeOf post (xrc, xbc, xfc, xrn, xra, xfi, xfp, xgn, xac, xlr, xhm, xrp, xrA, xrB, xrC, xby, xhd, xst, xbg, xco, xen, xre, xld, xim, xic, xih, xif, xop, xbp, xbq, xsc, xna, xhe, xlo, xsk) (nI c) := by
  unfold wpX_sizeOf
  dsimp only
  refine x_hasOp hc (fun h => br_f ba_10 ?_) fun h => br_t rfl ?_
  · rw [h] at k; exact k
  · rw [h] at k; exact k
theorem x_codeEnd {post : Int32 → Prop} {f : Nat} (hf : f < 4) (h0 : xhd f = nI (pl_hd b f)) (h1 : pl_hd b f + 2 < 120) (hb : ∀ i, i < 120 → xby i = nI (b i)) (k : post (nI (pl_e b f))) : wpX_codeEnd post (xrc, xbc, xfc, xrn, xra, xfi, xfp, xgn, xac, xlr, xhm, xrp, xrA, xrB, xrC, xby, xhd, xst, xbg, xco, xen, xre, xld, xim, xic, xih, xif, xop, xbp, xbq, xsc, xna, xhe, xlo, xsk) (nI f) := by
  unfold wpX_codeEnd
  dsimp only
  have e3 : nI (pl_hd b f) + 3 = nI (pl_hd b f + 2 + 1) := nI_add _ 3
  rw [nI_clamp (by omega), h0, e3, nI_pred, nI_clamp (by omega), hb _ h1, nI_add]
  exact ⟨vp_in_nI hf (by omega), vp_in_nI hf (by omega), vp_in_nI h1 (by omega), k⟩
theorem x_codeFirst {post : Int32 → Prop} {f : Nat} (hf : f < 4) (h0 : xhd f = nI (pl_hd b f)) (k : post (nI (pl_s b f))) : wpX_codeFirst post (xrc, xbc, xfc, xrn, xra, xfi, xfp, xgn, xac, xlr, xhm, xrp, xrA, xrB, xrC, xby, xhd, xst, xbg, xco, xen, xre, xld, xim, xic, xih, xif, xop, xbp, xbq, xsc, xna, xhe, xlo, xsk) (nI f) := by
  unfold wpX_codeFirst
  dsimp only
  rw [nI_clamp (by omega), h0, show nI (pl_hd b f) + 3 = nI (pl_hd b f + 3) from nI_add _ 3]
  exact ⟨vp_in_nI hf (by omega), k⟩
theorem x_li76 {post : Int32 → Prop} {f : Nat} (hf : f < 4) (h0 : xhd f = nI (pl_hd b f)) (h1 : pl_hd b f + 2 < 120) (hb : ∀ i, i < 120 → xby i = nI (b i)) (k : post (nI (b (pl_hd b f) + b (pl_hd b f + 1)))) :
    wX_operandLimit_76 post (nI f) xrc xbc xfc xrn xra xfi xfp xgn xac xlr xhm xrp xrA xrB xrC xby xhd xst xbg xco xen xre xld xim xic xih xif xop xbp xbq xsc xna xhe xlo xsk := by
  unfold wX_operandLimit_76
  rw [nI_clamp (by omega), h0, nI_1, nI_clamp (by omega), nI_clamp (by omega), hb _ (by omega), hb _ (by omega), nI_add]
  exact ⟨vp_in_nI hf (by omega), vp_in_nI (by omega) (by omega), vp_in_nI hf (by omega), vp_in_nI (by omega) (by omega), k⟩
theorem x_limit {post : Int32 → Prop} {f c : Nat} (hc : c ≤ 16) (hs : pl_sz c = 2) (hf : f < 4) (h0 : xhd f = nI (pl_hd b f)) (h1 : pl_hd b f + 2 < 120) (hb : ∀ i, i < 120 → xby i = nI (b i)) (k : post (nI (pl_li b f c))) :
    wpX_operandLimit post (xrc, xbc, nI (pl_nf b), xrn, xra, xfi, xfp, xgn, xac, xlr, xhm, xrp, xrA, xrB, xrC, xby, xhd, xst, xbg, xco, xen, xre, xld, xim, xic, xih, xif, xop, xbp, xbq, xsc, xna, xhe, xlo, xsk) (nI f) (nI c) := by
  unfold wpX_operandLimit
  dsimp only
  rcases c17 hc with rfl | rfl | rfl | rfl | rfl | rfl | rfl | rfl | rfl | rfl | rfl | rfl | rfl | rfl | rfl | rfl | rfl
  · exact br_t (by decide) k
  · exact br_f (by decide) (br_f (by decide) (br_t (by decide) (x_li76 hf h0 h1 hb k)))
  · exact br_f (by decide) (br_f (by decide) (br_f (by decide) (br_t (by decide) (x_li76 hf h0 h1 hb k))))
  · exact absurd (pl_sz2.mp hs) (by omega)
  · exact absurd (pl_sz2.mp hs) (by omega)
  · exact absurd (pl_sz2.mp hs) (by omega)
  · exact absurd (pl_sz2.mp hs) (by omega)
  · exact absurd (pl_sz2.mp hs) (by omega)
  · exact absurd (pl_sz2.mp hs) (by omega)
  · exact absurd (pl_sz2.mp hs) (by omega)
  · exact br_f (by decide) (br_f (by decide) (br_f (by decide) (br_f (by decide) (br_f (by decide) (br_f (by decide) (br_f (by decide) (br_f (by decide) (br_f (by decide) (br_f (by decide) (br_f (by decide) (br_t (by decide) (k))))))))))))
  · exact br_f (by decide) (br_f (by decide) (br_f (by decide) (br_f (by decide) (br_f (by decide) (br_f (by decide) (br_f (by decide) (br_f (by decide) (br_f (by decide) (br_f (by decide) (br_f (by decide) (br_f (by decide) (br_t (by decide) (k)))))))))))))
  · exact br_f (by decide) (br_f (by decide) (br_f (by decide) (br_f (by decide) (br_f (by decide) (br_f (by decide) (br_f (by decide) (br_f (by decide) (br_f (by decide) (br_f (by decide) (br_f (by decide) (br_f (by decide) (br_f (by decide) (br_t (by decide) (k))))))))))))))
  · exact br_f (by decide) (br_f (by decide) (br_f (by decide) (br_f (by decide) (br_f (by decide) (br_f (by decide) (br_f (by decide) (br_f (by decide) (br_f (by decide) (br_f (by decide) (br_f (by decide) (br_f (by decide) (br_f (by decide) (br_f (by decide) (br_t (by decide) (by rw [hb 1 (by omega)]; exact k)))))))))))))))
  · exact br_f (by decide) (br_f (by decide) (br_f (by decide) (br_f (by decide) (br_f (by decide) (br_f (by decide) (br_f (by decide) (br_f (by decide) (br_f (by decide) (br_f (by decide) (br_f (by decide) (br_f (by decide) (br_f (by decide) (br_f (by decide) (br_f (by decide) (br_t (by decide) (k))))))))))))))))
  · exact br_f (by decide) (br_f (by decide) (br_f (by decide) (br_f (by decide) (br_f (by decide) (br_f (by decide) (br_f (by decide) (br_f (by decide) (br_f (by decide) (br_f (by decide) (br_f (by decide) (br_f (by decide) (br_f (by decide) (br_f (by decide) (br_f (by decide) (br_f (by decide) (br_t (by decide) (k)))))))))))))))))
  · exact absurd (pl_sz2.mp hs) (by omega)
theorem x_isBad {post : Int32 → Prop} {f i : Nat} (hi : i < 120) (he : pl_e b f ≤ 120) (hf : f < 4) (h0 : xhd f = nI (pl_hd b f)) (h1 : pl_hd b f + 2 < 120) (hb : ∀ i, i < 120 → xby i = nI (b i)) (hv : ∀ i, b i < 256) (hl : pl_li b f (b i) < 1000)
    (k1 : pl_bad b f i → post 1) (k0 : ¬ pl_bad b f i → post 0) : wpX_isBadCode post (xrc, xbc, nI (pl_nf b), xrn, xra, xfi, xfp, xgn, xac, xlr, xhm, xrp, xrA, xrB, xrC, xby, xhd, xst, xbg, xco, xen, xre, xld, xim, xic, xih, xif, xop, xbp, xbq, xsc, xna, xhe, xlo, xsk) (nI f) (nI i) (nI (pl_e b f)) := by
  unfold wpX_isBadCode
  dsimp only
  have v := hv i
  rw [nI_clamp (by omega), hb i hi, nI_1]
  refine ⟨vp_in_nI hi (by omega), nm_e (pk_le (b i) 16 (fun h => ?_) fun h => k1 (Or.inl h))⟩
  refine x_hasOp v (fun h2 => br_f ba_10 ?_) fun h2 => br_t rfl (k0 fun z => ?_)
  · refine pk_le (pl_e b f) (i + 1) (fun h3 => k1 (Or.inr ⟨h2, Or.inl h3⟩)) fun h3 => ⟨vp_in_nI (by omega) (by omega), ?_⟩
    refine x_limit h h2 hf h0 h1 hb ?_
    have v2 := hv (i + 1)
    rw [nI_clamp (by omega), hb (i + 1) (by omega)]
    refine pk_lt (b (i + 1)) (pl_li b f (b i)) (fun h4 => k0 fun z => ?_) fun h4 => k1 (Or.inr ⟨h2, Or.inr h4⟩)
    unfold pl_bad at z
    omega
  · unfold pl_bad at z
    omega
/-- the first bad code of f -/
def pl_FB (b : Nat → Nat) (f i : Nat) : Prop := pl_IS b f i ∧ pl_bad b f i ∧ ∀ j, j < i → pl_IS b f j → ¬ pl_bad b f j
def pl_ST (b : Nat → Nat) (f a : Nat) (st : Nat → Int32) : Prop := ∀ j, j < 120 → (¬ st j = 0 ↔ ((∃ g, g < f ∧ pl_IS b g j) ∨ (pl_IS b f j ∧ j < a)))
theorem pl_li_lt {b : Nat → Nat} {n f c : Nat} (h : pl_Fmt b n) (hf : f < pl_nf b) : pl_li b f c < 1000 := by
  have h1 := h.2.2.2.2.1 f hf
  have h2 := h.2.2.2.1
  have h3 := h.1
  unfold pl_li
  split
  · omega
  · split
    · omega
    · split
      · omega
      · split <;> omega
theorem x_ci53 {post : SX → Prop} {J23 : Int32 → Int32 → Int32 → Int32 → Int32 → Int32 → Int32 → Int32 → Int32 → Int32 → Int32 → Int64 → (Nat → Int32) → (Nat → Int32) → (Nat → Int32) → (Nat → Int32) → (Nat → Int32) → (Nat → Int32) → (Nat → Int32) → (Nat → Int32) → (Nat → Int32) → (Nat → Int32) → (Nat → Int32) → (Nat → Int32) → (Nat → Int32) → (Nat → Int32) → (Nat → Int32) → (Nat → Int32) → (Nat → Int32) → (Nat → Int32) → (Nat → Int32) → (Nat → Int32) → (Nat → Int32) → (Nat → Int32) → (Nat → Int32) → (Nat → Int32) → Prop} {f : Nat} (hn : n ≤ 120) (hF : pl_Fmt b n) (hf : f < pl_nf b) (h0 : xhd f = nI (pl_hd b f)) (hb : ∀ i, i < 120 → xby i = nI (b i)) (hv : ∀ i, b i < 256)
    (kbad : ∀ i, pl_FB b f i → ∀ xst : Nat → Int32, J23 (nI (f + 1)) xrc xbc (nI (pl_nf b)) xrn xra (nI 4) (nI i) xgn xac xlr xhm xrp xrA xrB xrC xby xhd xst xbg xco xen xre xld xim xic xih xif xop xbp xbq xsc xna xhe xlo xsk)
    (kok : (∀ i, pl_IS b f i → ¬ pl_bad b f i) → ∀ xst : Nat → Int32, pl_ST b (f + 1) 0 xst → J23 (nI (f + 1)) xrc xbc (nI (pl_nf b)) xrn xra 0 xfp xgn xac xlr xhm xrp xrA xrB xrC xby xhd xst xbg xco xen xre xld xim xic xih xif xop xbp xbq xsc xna xhe xlo xsk) :
    ∀ d a k, ∀ xst : Nat → Int32, a + d = pl_e b f → a ≤ pl_sc b (pl_s b f) k → pl_sc b (pl_s b f) k ≤ a + 1 → (∀ m, m < k → pl_sc b (pl_s b f) m < a) → (∀ m, m < k → ¬ pl_bad b f (pl_sc b (pl_s b f) m)) → pl_ST b f a xst →
      wX_checkInstructions_53 post J23 (nI f) (nI (pl_e b f)) (d + 1) (nI (pl_sc b (pl_s b f) k)) (nI a) xrc xbc (nI (pl_nf b)) xrn xra 0 xfp xgn xac xlr xhm xrp xrA xrB xrC xby xhd xst xbg xco xen xre xld xim xic xih xif xop xbp xbq xsc xna xhe xlo xsk := by
  have he := pl_ef hF hf
  have hh := pl_hf hF hf
  have h4 := hF.2.2.2.1
  intro d
  induction d with
  | zero =>
    intro a k xst ha h1 h2 h3 h5 hS
    refine br_t (nI_le (by omega) (by omega)) (nm_r (nI_1 f) (kok (fun i hi => ?_) xst fun j hj => ?_))
    · obtain ⟨h6, m, rfl⟩ := hi
      refine h5 m ?_
      by_cases z : m < k
      · exact z
      · by_cases e : m = k
        · subst e; omega
        · have := pl_sc_lt b (pl_s b f) k m (by omega)
          omega
    · rw [hS j hj]
      constructor
      · rintro (⟨g, hg, h7⟩ | ⟨h7, _⟩)
        · exact Or.inl ⟨g, by omega, h7⟩
        · exact Or.inl ⟨f, by omega, h7⟩
      · rintro (⟨g, hg, h7⟩ | ⟨h7, h8⟩)
        · by_cases e : g = f
          · subst e; exact Or.inr ⟨h7, by have := h7.1; omega⟩
          · exact Or.inl ⟨g, by omega, h7⟩
        · omega
  | succ d ih =>
    intro a k xst ha h1 h2 h3 h5 hS
    have hIS : ∀ j, pl_IS b f j → j < pl_sc b (pl_s b f) k → ∃ m, m < k ∧ pl_sc b (pl_s b f) m = j := by
      intro j hj hl
      obtain ⟨_, m, rfl⟩ := hj
      refine ⟨m, ?_, rfl⟩
      by_cases z : m < k
      · exact z
      · by_cases e : m = k
        · subst e; omega
        · have := pl_sc_lt b (pl_s b f) k m (by omega)
          omega
    refine br_f (nI_ge (by omega) (by omega)) (br_t rfl (pk_eq a (pl_sc b (pl_s b f) k) (fun e => ?_) fun e => ?_))
    · have is : pl_IS b f a := ⟨by omega, k, e.symm⟩
      refine x_isBad (by omega) (by omega) (by omega) h0 (by omega) hb hv (pl_li_lt hF hf) (fun z => br_f ba_10 ?_) fun z => br_t rfl ?_
      · refine nm_r (nI_1 a) ?_
        have K := kbad a ⟨is, z, fun j hj hjs => ?_⟩ xst
        · cases d with
          | zero => exact br_t (nI_le (by omega) (by omega)) (nm_r (nI_1 f) K)
          | succ d => exact br_f (nI_ge (by omega) (by omega)) (br_f (by decide) (nm_r (nI_1 f) K))
        · obtain ⟨m, hm, rfl⟩ := hIS j hjs (by omega)
          exact h5 m hm
      · have v := hv a
        refine br_t (by rw [e]) ⟨vp_in_nI (by omega) (by omega), nm_r (show _ = upd xst a 1 by rw [nI_clamp (by omega), ba_vb1]) ⟨vp_in_nI (by omega) (by omega), ?_⟩⟩
        rw [nI_clamp (by omega), hb a (by omega)]
        refine x_sizeOf v (nm_r (e' := nI (pl_sc b (pl_s b f) (k + 1))) (by rw [nI_add]; exact congrArg nI (by show _ = pl_sc b (pl_s b f) k + pl_sz (b (pl_sc b (pl_s b f) k)); rw [← e])) (nm_r (nI_1 a) ?_))
        have hz := pl_sz_pos (b a)
        have hsc : pl_sc b (pl_s b f) (k + 1) = a + pl_sz (b a) := by show pl_sc b (pl_s b f) k + pl_sz (b (pl_sc b (pl_s b f) k)) = _; rw [← e]
        refine ih (a + 1) (k + 1) (upd xst a 1) (by omega) (by omega) (by omega) (fun m hm => ?_) (fun m hm => ?_) fun j hj => ?_
        · by_cases em : m = k
          · subst em; omega
          · have := h3 m (by omega); omega
        · by_cases em : m = k
          · subst em; rw [← e]; exact z
          · exact h5 m (by omega)
        · by_cases ej : j = a
          · subst ej
            rw [pk_us]
            exact ⟨fun _ => Or.inr ⟨is, by omega⟩, fun _ => by decide⟩
          · rw [pk_un ej, hS j hj]
            constructor
            · rintro (h7 | ⟨h7, h8⟩)
              · exact Or.inl h7
              · exact Or.inr ⟨h7, by omega⟩
            · rintro (h7 | ⟨h7, h8⟩)
              · exact Or.inl h7
              · exact Or.inr ⟨h7, by omega⟩
    · refine br_f (ba_ne (by omega) (by omega) e) (nm_r (nI_1 a) (ih (a + 1) k xst (by omega) (by omega) (by omega) (fun m hm => by have := h3 m hm; omega) h5 fun j hj => ?_))
      rw [hS j hj]
      constructor
      · rintro (h7 | ⟨h7, h8⟩)
        · exact Or.inl h7
        · exact Or.inr ⟨h7, by omega⟩
      · rintro (h7 | ⟨h7, h8⟩)
        · exact Or.inl h7
        · refine Or.inr ⟨h7, ?_⟩
          by_cases ej : j = a
          · subst ej
            obtain ⟨m, hm, em⟩ := hIS j h7 (by omega)
            have := h3 m hm
            omega
          · omega
/-- the first function with a bad code, and its first -/
def pl_FBA (b : Nat → Nat) (i : Nat) : Prop := ∃ f, f < pl_nf b ∧ pl_FB b f i ∧ ∀ g, g < f → ∀ j, pl_IS b g j → ¬ pl_bad b g j
theorem x_codes {post : SX → Prop} (hn : n ≤ 120) (hF : pl_Fmt b n) (h0 : ∀ f, f < pl_nf b → xhd f = nI (pl_hd b f)) (hb : ∀ i, i < 120 → xby i = nI (b i)) (hv : ∀ i, b i < 256)
    (kbad : ∀ i, pl_FBA b i → ∀ xst : Nat → Int32, post (xrc, xbc, nI (pl_nf b), xrn, xra, nI 4, nI i, xgn, xac, xlr, xhm, xrp, xrA, xrB, xrC, xby, xhd, xst, xbg, xco, xen, xre, xld, xim, xic, xih, xif, xop, xbp, xbq, xsc, xna, xhe, xlo, xsk))
    (kok : (∀ f, f < pl_nf b → ∀ i, pl_IS b f i → ¬ pl_bad b f i) → ∀ xst : Nat → Int32, pl_ST b (pl_nf b) 0 xst → post (xrc, xbc, nI (pl_nf b), xrn, xra, 0, xfp, xgn, xac, xlr, xhm, xrp, xrA, xrB, xrC, xby, xhd, xst, xbg, xco, xen, xre, xld, xim, xic, xih, xif, xop, xbp, xbq, xsc, xna, xhe, xlo, xsk)) :
    wpX_checkInstructions post (xrc, xbc, nI (pl_nf b), xrn, xra, 0, xfp, xgn, xac, xlr, xhm, xrp, xrA, xrB, xrC, xby, xhd, xst, xbg, xco, xen, xre, xld, xim, xic, xih, xif, xop, xbp, xbq, xsc, xna, xhe, xlo, xsk) := by
  have h4 := hF.2.2.2.1
  have O : ∀ d f, ∀ xst : Nat → Int32, f + d = pl_nf b → (∀ g, g < f → ∀ j, pl_IS b g j → ¬ pl_bad b g j) → pl_ST b f 0 xst → wX_checkInstructions_23 post (d + 1) (nI f) xrc xbc (nI (pl_nf b)) xrn xra 0 xfp xgn xac xlr xhm xrp xrA xrB xrC xby xhd xst xbg xco xen xre xld xim xic xih xif xop xbp xbq xsc xna xhe xlo xsk := by
    intro d
    induction d with
    | zero =>
      intro f xst hf hg hS
      have : f = pl_nf b := by omega
      subst this
      exact br_t (nI_le (Nat.le_refl _) (by omega)) (kok hg xst hS)
    | succ d ih =>
      intro f xst hf hg hS
      have he := pl_ef hF (f := f) (by omega)
      have hh := pl_hf hF (f := f) (by omega)
      have hs : pl_s b f < pl_e b f := hh
      refine br_f (nI_ge (by omega) (by omega)) (br_t rfl ?_)
      refine x_codeEnd (b := b) (by omega) (h0 f (by omega)) (by omega) hb ?_
      refine x_codeFirst (b := b) (by omega) (h0 f (by omega)) ?_
      refine ⟨pl_e b f - pl_s b f + 1, x_ci53 (b := b) hn hF (by omega) (h0 f (by omega)) hb hv (fun i hi xst => ?_) (fun hok xst hS' => ?_) (pl_e b f - pl_s b f) (pl_s b f) 0 xst (by omega) (Nat.le_refl _) (by show pl_s b f ≤ _; omega) (fun m hm => absurd hm (by omega)) (fun m hm => absurd hm (by omega)) fun j hj => ?_⟩
      · have K := kbad i ⟨f, by omega, hi, hg⟩ xst
        cases d with
        | zero => exact br_t (nI_le (by omega) (by omega)) K
        | succ d => exact br_f (nI_ge (by omega) (by omega)) (br_f (by decide) K)
      · refine ih (f + 1) xst (by omega) (fun g hg' => ?_) hS'
        by_cases e : g = f
        · subst e; exact hok
        · exact hg g (by omega)
      · rw [hS j hj]
        constructor
        · rintro (h7 | ⟨h7, h8⟩)
          · exact Or.inl h7
          · omega
        · rintro (h7 | ⟨h7, h8⟩)
          · exact Or.inl h7
          · have := pl_ISge h7; omega
  have Z : ∀ d a, ∀ xst : Nat → Int32, a + d = 120 → (∀ j, j < a → xst j = 0) → wX_checkInstructions_2 post xrc xbc (nI (pl_nf b)) xrn xra 0 xfp xgn xac xlr xhm (d + 1) (nI a) xrp xrA xrB xrC xby xhd xst xbg xco xen xre xld xim xic xih xif xop xbp xbq xsc xna xhe xlo xsk := by
    intro d
    induction d with
    | zero =>
      intro a xst ha hz
      refine br_t (nI_le (a := 120) (by omega) (by omega)) ⟨_, O (pl_nf b) 0 xst (by omega) (fun g hg => absurd hg (by omega)) fun j hj => ?_⟩
      rw [hz j (by omega)]
      constructor
      · intro z; exact absurd rfl z
      · rintro (⟨g, hg, _⟩ | ⟨_, h⟩)
        · omega
        · omega
    | succ d ih =>
      intro a xst ha hz
      refine br_f (nI_ge (b := 120) (by omega) (by decide)) ⟨vp_in_nI (by omega) (by omega), nm_r (show _ = upd xst a 0 by rw [nI_clamp (by omega), ba_vb0]) (nm_r (nI_1 a) (ih (a + 1) _ (by omega) fun j hj => ?_))⟩
      by_cases e : j = a
      · subst e; exact pk_us
      · rw [pk_un e]; exact hz j (by omega)
  exact ⟨_, Z 120 0 xst rfl fun j hj => absurd hj (by omega)⟩
end B1
end
section
section B2
variable {r n : Nat} {pt M b : Nat → Nat} {yru ypl ynu yps yfi yac yre : Int32} {yme : Int64} {yrp yrq yrl yby yle ypr ywa ybp ybq ybo ysc yfn yat yhi ylo yen : Nat → Int32}
/-! the reference's BADCODE check -/
theorem y_st {b : Nat → Nat} {f k j : Nat} (hj : pl_IS b f j) (hl : j < pl_sc b (pl_s b f) k) : ∃ m, m < k ∧ pl_sc b (pl_s b f) m = j := by
  obtain ⟨_, m, rfl⟩ := hj
  refine ⟨m, ?_, rfl⟩
  by_cases z : m < k
  · exact z
  · by_cases e : m = k
    · subst e; omega
    · have := pl_sc_lt b (pl_s b f) k m (by omega)
      omega
theorem y_sub {a p : Nat} : nI (p + a) - nI p = nI a := by
  rw [pk_sub (by omega)]
  exact congrArg nI (by omega)
theorem y_c156 {post : Int32 → SY → Prop} {J33 : Int32 → Prop} {x2 x3 x4 x5 : Int32} {i c l : Nat} (hi : i + 1 < 120 ∨ pl_sz c = 1) (hc : c < 256) (hl : l < 1000) (hv : ∀ i, M i < 256)
    (kbad : pl_sz c = 2 → l ≤ re_b M 3 (i + 1) → post 0 (yru, nI i, ynu, yps, nI 4, yac, yre, yme, yrp, yrq, yrl, fun i => nI (M i), yle, ypr, ywa, ybp, ybq, ybo, ysc, yfn, yat, yhi, ylo, yen)) (kok : (pl_sz c = 2 → re_b M 3 (i + 1) < l) → J33 (nI (360 + (i + pl_sz c)))) :
    wY_codes_156 post J33 x2 x3 x4 x5 (nI (360 + i)) (nI c) (nI l) yru ypl ynu yps yfi yac yre yme yrp yrq yrl (fun i => nI (M i)) yle ypr ywa ybp ybq ybo ysc yfn yat yhi ylo yen := by
  have s : (pl_sz c = 2 → re_b M 3 (i + 1) < l) → wY_codes_190 post J33 x2 x3 x4 x5 (nI (360 + i)) (nI c) yru ypl ynu yps yfi yac yre yme yrp yrq yrl (fun i => nI (M i)) yle ypr ywa ybp ybq ybo ysc yfn yat yhi ylo yen := by
    intro g
    have K := kok g
    refine y_wide hc (fun h => br_f ba_10 (nm_r (e' := nI (360 + (i + 2))) ?_ ?_)) fun h => br_t rfl (nm_r (e' := nI (360 + (i + 1))) ?_ ?_)
    · exact nI_add _ 2
    · rw [h] at K; exact K
    · exact nI_1 _
    · rw [h] at K; exact K
  refine y_wide hc (fun h => br_f ba_10 ?_) fun h => br_t rfl (s fun z => absurd z (by omega))
  have h1 : i + 1 < 120 := by omega
  have e : nI (360 + i) + 1 = nI (360 + (i + 1)) := nI_1 _
  have v := hv (360 + (i + 1))
  rw [e, nI_clamp (by omega)]
  refine ⟨vp_in_nI (by omega) (by omega), pk_lt (M (360 + (i + 1))) l (fun h2 => s fun _ => ?_) fun h2 => ⟨ba_nb0, ?_⟩⟩
  · rw [← y_b3 h1]; exact h2
  · rw [show nI (360 + i) - 360 = nI i from y_sub]
    exact kbad h (by rw [← y_b3 h1]; exact h2)
theorem y_c88 {post : Int32 → SY → Prop} {J33 : Int32 → Prop} {x3 x6 : Int32} {f c : Nat} (hc : c ≤ 16) (h1 : pl_hd (re_b M 3) f + 2 < 120)
    (k : wY_codes_156 post J33 (nI (360 + pl_hd (re_b M 3) f)) x3 (nI (pl_nf (re_b M 3))) (nI (re_b M 3 1)) x6 (nI c) (nI (pl_li (re_b M 3) f c)) yru ypl ynu yps yfi yac yre yme yrp yrq yrl (fun i => nI (M i)) yle ypr ywa ybp ybq ybo ysc yfn yat yhi ylo yen) :
    wY_codes_88 post J33 (nI (360 + pl_hd (re_b M 3) f)) x3 (nI (pl_nf (re_b M 3))) (nI (re_b M 3 1)) x6 (nI c) 256 yru ypl ynu yps yfi yac yre yme yrp yrq yrl (fun i => nI (M i)) yle ypr ywa ybp ybq ybo ysc yfn yat yhi ylo yen := by
  have L : (c = 1 ∨ c = 2) → wY_codes_117 post J33 (nI (360 + pl_hd (re_b M 3) f)) x3 (nI (pl_nf (re_b M 3))) (nI (re_b M 3 1)) x6 (nI c) (nI (re_b M 3 (pl_hd (re_b M 3) f) + re_b M 3 (pl_hd (re_b M 3) f + 1))) yru ypl ynu yps yfi yac yre yme yrp yrq yrl (fun i => nI (M i)) yle ypr ywa ybp ybq ybo ysc yfn yat yhi ylo yen →
      wY_codes_100 post J33 (nI (360 + pl_hd (re_b M 3) f)) x3 (nI (pl_nf (re_b M 3))) (nI (re_b M 3 1)) x6 (nI c) yru ypl ynu yps yfi yac yre yme yrp yrq yrl (fun i => nI (M i)) yle ypr ywa ybp ybq ybo ysc yfn yat yhi ylo yen := by
    intro _ k
    unfold wY_codes_100
    have e : nI (360 + pl_hd (re_b M 3) f) + 1 = nI (360 + (pl_hd (re_b M 3) f + 1)) := nI_1 _
    rw [e, nI_clamp (by omega), nI_clamp (by omega)]
    refine ⟨vp_in_nI (by omega) (by omega), vp_in_nI (by omega) (by omega), nm_r ?_ k⟩
    show nI (M (360 + pl_hd (re_b M 3) f)) + nI (M (360 + (pl_hd (re_b M 3) f + 1))) = _
    rw [y_b3 (M := M) (show pl_hd (re_b M 3) f < 120 by omega), y_b3 (M := M) (show pl_hd (re_b M 3) f + 1 < 120 by omega), nI_add]
  rcases c17 hc with rfl | rfl | rfl | rfl | rfl | rfl | rfl | rfl | rfl | rfl | rfl | rfl | rfl | rfl | rfl | rfl | rfl
  · exact br_f (by decide) (br_f (by decide) (br_f (by decide) (br_f (by decide) (br_f (by decide) (br_f (by decide) k)))))
  · exact br_t (by decide) (L (Or.inl rfl) (br_f (by decide) (br_f (by decide) (br_f (by decide) (br_f (by decide) k)))))
  · exact br_f (by decide) (br_t (by decide) (L (Or.inr rfl) (br_f (by decide) (br_f (by decide) (br_f (by decide) (br_f (by decide) k))))))
  · exact br_f (by decide) (br_f (by decide) (br_f (by decide) (br_f (by decide) (br_f (by decide) (br_f (by decide) k)))))
  · exact br_f (by decide) (br_f (by decide) (br_f (by decide) (br_f (by decide) (br_f (by decide) (br_f (by decide) k)))))
  · exact br_f (by decide) (br_f (by decide) (br_f (by decide) (br_f (by decide) (br_f (by decide) (br_f (by decide) k)))))
  · exact br_f (by decide) (br_f (by decide) (br_f (by decide) (br_f (by decide) (br_f (by decide) (br_f (by decide) k)))))
  · exact br_f (by decide) (br_f (by decide) (br_f (by decide) (br_f (by decide) (br_f (by decide) (br_f (by decide) k)))))
  · exact br_f (by decide) (br_f (by decide) (br_f (by decide) (br_f (by decide) (br_f (by decide) (br_f (by decide) k)))))
  · exact br_f (by decide) (br_f (by decide) (br_f (by decide) (br_f (by decide) (br_f (by decide) (br_f (by decide) k)))))
  · exact br_f (by decide) (br_f (by decide) (br_f (by decide) (br_f (by decide) (br_f (by decide) (br_f (by decide) k)))))
  · exact br_f (by decide) (br_f (by decide) (br_f (by decide) (br_f (by decide) (br_f (by decide) (br_f (by decide) k)))))
  · exact br_f (by decide) (br_f (by decide) (br_t (by decide) (br_f (by decide) (br_f (by decide) (br_f (by decide) k)))))
  · exact br_f (by decide) (br_f (by decide) (br_f (by decide) (br_t (by decide) (br_f (by decide) (br_f (by decide) k)))))
  · exact br_f (by decide) (br_f (by decide) (br_f (by decide) (br_f (by decide) (br_t (by decide) k))))
  · exact br_f (by decide) (br_f (by decide) (br_f (by decide) (br_f (by decide) (br_f (by decide) (br_t (by decide) k)))))
  · exact br_f (by decide) (br_f (by decide) (br_f (by decide) (br_f (by decide) (br_f (by decide) (br_f (by decide) k)))))
theorem y_codes {post : Int32 → SY → Prop} {f : Nat} (hn : n ≤ 120) (hF : pl_Fmt (re_b M 3) n) (hf : f < pl_nf (re_b M 3)) (hv : ∀ i, M i < 256)
    (kbad : ∀ i, pl_FB (re_b M 3) f i → post 0 (yru, nI i, ynu, yps, nI 4, yac, yre, yme, yrp, yrq, yrl, fun i => nI (M i), yle, ypr, ywa, ybp, ybq, ybo, ysc, yfn, yat, yhi, ylo, yen))
    (kok : (∀ i, pl_IS (re_b M 3) f i → ¬ pl_bad (re_b M 3) f i) → post 1 (yru, ypl, ynu, yps, yfi, yac, yre, yme, yrp, yrq, yrl, fun i => nI (M i), yle, ypr, ywa, ybp, ybq, ybo, ysc, yfn, yat, yhi, ylo, yen)) : wpY_codes post (yru, ypl, ynu, yps, yfi, yac, yre, yme, yrp, yrq, yrl, fun i => nI (M i), yle, ypr, ywa, ybp, ybq, ybo, ysc, yfn, yat, yhi, ylo, yen) (nI f) := by
  have he := pl_ef hF hf
  have hh := pl_hf hF hf
  have h4 := hF.2.2.2.1
  have hb1 := hF.1
  have hvb : ∀ i, re_b M 3 i < 256 := by
    intro i
    unfold re_b
    split
    · exact hv _
    · omega
  have hi : ∀ i, i < f + 1 → pl_hd (re_b M 3) i + 2 < 120 := by
    intro i h
    have := pl_hd_le (re_b M 3) i f (by omega)
    omega
  unfold wpY_codes
  dsimp only
  refine y_head (p := 3) (by omega) (by omega) hb1 (fun i h => hi i (by omega)) ?_
  refine y_codeEnd (p := 3) (by omega) (by omega) hb1 hi ?_
  refine y_functions (p := 3) (by omega) hb1 ?_
  refine y_imports (p := 3) (by omega) ?_
  refine nm_r (e' := nI (360 + pl_s (re_b M 3) f)) (nI_add _ 3) ⟨pl_e (re_b M 3) f - pl_s (re_b M 3) f + 1, ?_⟩
  have L : ∀ d k, pl_e (re_b M 3) f ≤ pl_sc (re_b M 3) (pl_s (re_b M 3) f) k + d → pl_sc (re_b M 3) (pl_s (re_b M 3) f) k ≤ pl_e (re_b M 3) f → (∀ m, m < k → ¬ pl_bad (re_b M 3) f (pl_sc (re_b M 3) (pl_s (re_b M 3) f) m)) →
      wY_codes_33 post (nI (360 + pl_hd (re_b M 3) f)) (nI (360 + pl_e (re_b M 3) f)) (nI (pl_nf (re_b M 3))) (nI (re_b M 3 1)) yru ypl ynu yps yfi yac yre yme yrp yrq yrl (fun i => nI (M i)) yle ypr ywa ybp ybq ybo ysc yfn yat yhi ylo yen (d + 1) (nI (360 + pl_sc (re_b M 3) (pl_s (re_b M 3) f) k)) := by
    intro d
    induction d with
    | zero =>
      intro k h1 h2 h3
      refine br_t (nI_le (by omega) (by omega)) (kok fun i hi => ?_)
      obtain ⟨m, hm, rfl⟩ := y_st (k := k) hi (by have := hi.1; omega)
      exact h3 m hm
    | succ d ih =>
      intro k h1 h2 h3
      have hz := pl_sz_pos (re_b M 3 (pl_sc (re_b M 3) (pl_s (re_b M 3) f) k))
      have hsc : pl_sc (re_b M 3) (pl_s (re_b M 3) f) (k + 1) = pl_sc (re_b M 3) (pl_s (re_b M 3) f) k + pl_sz (re_b M 3 (pl_sc (re_b M 3) (pl_s (re_b M 3) f) k)) := rfl
      refine pk_le (360 + pl_e (re_b M 3) f) (360 + pl_sc (re_b M 3) (pl_s (re_b M 3) f) k) (fun h => kok fun i hi => ?_) fun h => ?_
      · obtain ⟨m, hm, rfl⟩ := y_st (k := k) hi (by have := hi.1; omega)
        exact h3 m hm
      have is : pl_IS (re_b M 3) f (pl_sc (re_b M 3) (pl_s (re_b M 3) f) k) := ⟨by omega, k, rfl⟩
      have FB : pl_bad (re_b M 3) f (pl_sc (re_b M 3) (pl_s (re_b M 3) f) k) → pl_FB (re_b M 3) f (pl_sc (re_b M 3) (pl_s (re_b M 3) f) k) := fun z => ⟨is, z, fun j hj hjs => by
        obtain ⟨m, hm, rfl⟩ := y_st (k := k) hjs hj
        exact h3 m hm⟩
      have B76 : pl_bad (re_b M 3) f (pl_sc (re_b M 3) (pl_s (re_b M 3) f) k) → wY_codes_76 post (nI (360 + pl_sc (re_b M 3) (pl_s (re_b M 3) f) k)) yru ypl ynu yps yfi yac yre yme yrp yrq yrl (fun i => nI (M i)) yle ypr ywa ybp ybq ybo ysc yfn yat yhi ylo yen := by
        intro z
        unfold wY_codes_76
        rw [show nI (360 + pl_sc (re_b M 3) (pl_s (re_b M 3) f) k) - 360 = nI (pl_sc (re_b M 3) (pl_s (re_b M 3) f) k) from y_sub]
        exact ⟨ba_nb0, kbad _ (FB z)⟩
      have vb := hvb (pl_sc (re_b M 3) (pl_s (re_b M 3) f) k)
      have sc := ih (k + 1)
      rw [hsc] at sc
      generalize ei : pl_sc (re_b M 3) (pl_s (re_b M 3) f) k = i at *
      refine ⟨vp_in_nI (by omega) (by omega), nm_r (e' := nI (re_b M 3 i)) ?_ ?_⟩
      · show nI (M (nI (360 + i)).toNatClampNeg) = _
        rw [nI_clamp (by omega), y_b3 (M := M) (show i < 120 by omega)]
      refine pk_lt 16 (re_b M 3 i) (fun h5 => B76 (Or.inl h5)) fun h5 => ?_
      have C : (pl_sz (re_b M 3 i) = 2 → i + 1 < pl_e (re_b M 3) f) → wY_codes_88 post (wY_codes_33 post (nI (360 + pl_hd (re_b M 3) f)) (nI (360 + pl_e (re_b M 3) f)) (nI (pl_nf (re_b M 3))) (nI (re_b M 3 1)) yru ypl ynu yps yfi yac yre yme yrp yrq yrl (fun i => nI (M i)) yle ypr ywa ybp ybq ybo ysc yfn yat yhi ylo yen (d + 1)) (nI (360 + pl_hd (re_b M 3) f)) (nI (360 + pl_e (re_b M 3) f)) (nI (pl_nf (re_b M 3))) (nI (re_b M 3 1)) (nI (360 + i)) (nI (re_b M 3 i)) 256 yru ypl ynu yps yfi yac yre yme yrp yrq yrl (fun i => nI (M i)) yle ypr ywa ybp ybq ybo ysc yfn yat yhi ylo yen := by
        intro g
        refine y_c88 h5 (by omega) (y_c156 ?_ vb (pl_li_lt hF hf) hv (fun g1 g2 => kbad i (FB (Or.inr ⟨g1, Or.inr g2⟩))) fun g1 => ?_)
        · by_cases e2 : pl_sz (re_b M 3 i) = 2
          · exact Or.inl (by have := g e2; omega)
          · exact Or.inr (by omega)
        · refine sc (by omega) (by omega) fun m hm => ?_
          by_cases em : m = k
          · subst em
            rw [ei]
            intro z
            unfold pl_bad at z
            have g3 : pl_sz (re_b M 3 i) = 2 → i + 1 < pl_e (re_b M 3) f := g
            omega
          · exact h3 m (by omega)
      refine y_wide vb (fun h6 => br_f ba_10 ?_) fun h6 => br_t rfl (C fun z => absurd z (by omega))
      rw [show nI (360 + i) + 1 = nI (360 + (i + 1)) from nI_1 _]
      exact pk_eq (360 + (i + 1)) (360 + pl_e (re_b M 3) f) (fun e => B76 (Or.inr ⟨h6, Or.inl (by omega)⟩)) fun e => C fun _ => by omega
  exact L (pl_e (re_b M 3) f - pl_s (re_b M 3) f) 0 (by show _ ≤ pl_s (re_b M 3) f + _; omega) (by show pl_s (re_b M 3) f ≤ _; exact Nat.le_of_lt hh) fun m hm => absurd hm (by omega)
end B2
end
section
section B3
variable {r n : Nat} {pt M b : Nat → Nat} {xrc xbc xfc xrn xra xfi xfp xgn xac xlr : Int32} {xhm : Int64} {xrp xrA xrB xrC xby xhd xst xbg xco xen xre xld xim xic xih xif xop xbp xbq xsc xna xhe xlo xsk : Nat → Int32} {yru ypl ynu yps yfi yac yre : Int32} {yme : Int64} {yrp yrq yrl yby yle ypr ywa ybp ybq ybo ysc yfn yat yhi ylo yen : Nat → Int32}
/-! where a jump goes -/
theorem tg_sg : ∀ v : Fin 256, ((nI v.val).toInt8.toInt32).toInt = pl_sg v.val := by decide +kernel
theorem tg_sgb {v : Nat} (h : v < 256) : -128 ≤ pl_sg v ∧ pl_sg v < 128 := by
  unfold pl_sg
  split <;> omega
theorem tg_T {i v : Nat} (h : i < 1000) (hv : v < 256) : (nI i + 2 + (nI v).toInt8.toInt32).toInt = (i : Int) + 2 + pl_sg v := by
  have h1 := tg_sg ⟨v, hv⟩
  have h2 := tg_sgb hv
  rw [show nI i + 2 = nI (i + 2) from nI_add i 2, Int32.toInt_add, nI_toInt (by omega), show ((nI v).toInt8.toInt32).toInt = pl_sg v from h1]
  rw [Int.bmod_eq_of_le (by omega) (by omega)]
  omega
theorem tg_n {T : Int32} {j : Nat} (h : T.toInt = (j : Int)) (hj : j < 2 ^ 31) : T = nI j := by
  apply Int32.toInt_inj.mp
  rw [h, nI_toInt hj]
theorem tg_lt {T : Int32} {j : Nat} (hj : j < 2 ^ 31) : T < nI j ↔ T.toInt < (j : Int) := by
  rw [Int32.lt_iff_toInt_lt, nI_toInt hj]
theorem tg_le {T : Int32} {j : Nat} (hj : j < 2 ^ 31) : nI j ≤ T ↔ (j : Int) ≤ T.toInt := by
  rw [Int32.le_iff_toInt_le, nI_toInt hj]
theorem x_targetB {post : Int32 → Prop} {i : Nat} (hi : i + 1 < 120) (hb : ∀ i, i < 120 → xby i = nI (b i)) (hv : ∀ i, b i < 256) (k : ∀ T : Int32, T.toInt = pl_tg b i → post T) : wpX_jumpTarget__bytes post (xrc, xbc, xfc, xrn, xra, xfi, xfp, xgn, xac, xlr, xhm, xrp, xrA, xrB, xrC, xby, xhd, xst, xbg, xco, xen, xre, xld, xim, xic, xih, xif, xop, xbp, xbq, xsc, xna, xhe, xlo, xsk) (nI i) := by
  unfold wpX_jumpTarget__bytes
  dsimp only
  rw [show nI i + 1 = nI (i + 1) from nI_1 i, nI_clamp (by omega), hb _ hi]
  exact ⟨vp_in_nI hi (by omega), k _ (tg_T (by omega) (hv _))⟩
theorem y_target {post : Int32 → Prop} {p i : Nat} (hp : p ≤ 3) (hi : i + 1 < 120) (hv : ∀ i, M i < 256) (k : ∀ T : Int32, T.toInt = (p * 120 : Nat) + pl_tg (re_b M p) i → post T) : wpY_target post (yru, ypl, ynu, yps, yfi, yac, yre, yme, yrp, yrq, yrl, fun i => nI (M i), yle, ypr, ywa, ybp, ybq, ybo, ysc, yfn, yat, yhi, ylo, yen) (nI (p * 120 + i)) := by
  unfold wpY_target
  dsimp only
  have e1 : nI (p * 120 + i) + 1 = nI (p * 120 + (i + 1)) := nI_1 _
  have e2 : re_b M p (i + 1) = M (p * 120 + (i + 1)) := re_bi hi
  rw [e1, nI_clamp (by omega)]
  refine ⟨vp_in_nI (by omega) (by omega), k _ ?_⟩
  rw [tg_T (by omega) (hv _)]
  unfold pl_tg
  rw [e2]
  omega
theorem x_isJump {post : Int32 → Prop} {c : Nat} (hc : c < 256) (k1 : (c = 10 ∨ c = 11) → post 1) (k0 : ¬ (c = 10 ∨ c = 11) → post 0) : wpX_isJump post (xrc, xbc, xfc, xrn, xra, xfi, xfp, xgn, xac, xlr, xhm, xrp, xrA, xrB, xrC, xby, xhd, xst, xbg, xco, xen, xre, xld, xim, xic, xih, xif, xop, xbp, xbq, xsc, xna, xhe, xlo, xsk) (nI c) :=
  pk_eq c 10 (fun h => k1 (Or.inl h)) fun h => pk_eq c 11 (fun h2 => k1 (Or.inr h2)) fun h2 => k0 (by omega)
/-- the flags once all functions are scanned -/
theorem st_f {b : Nat → Nat} {f a : Nat} {st : Nat → Int32} (hS : pl_ST b (pl_nf b) 0 st) (hf : f < pl_nf b) (h1 : pl_s b f ≤ a) (h2 : a < pl_e b f) (h3 : a < 120) : ¬ st a = 0 ↔ pl_IS b f a := by
  rw [hS a h3]
  constructor
  · rintro (⟨g, hg, h⟩ | ⟨_, h⟩)
    · have := pl_apart h1 h2 (pl_ISge h) h.1
      subst this
      exact h
    · omega
  · intro h; exact Or.inl ⟨f, hf, h⟩
def pl_FJ (b : Nat → Nat) (f i : Nat) : Prop := pl_IS b f i ∧ ¬ pl_jok b f i ∧ ∀ j, j < i → pl_IS b f j → pl_jok b f j
def pl_FJA (b : Nat → Nat) (i : Nat) : Prop := ∃ f, f < pl_nf b ∧ pl_FJ b f i ∧ ∀ g, g < f → ∀ j, pl_IS b g j → pl_jok b g j
theorem pl_wide {b : Nat → Nat} {f i : Nat} (h : ¬ pl_bad b f i) (h2 : pl_sz (b i) = 2) : i + 1 < pl_e b f := by
  unfold pl_bad at h
  omega
theorem pl_nx {b : Nat → Nat} {f i : Nat} (h : ¬ pl_bad b f i) (hi : i < pl_e b f) : i + pl_sz (b i) ≤ pl_e b f := by
  have := pl_sz_pos (b i)
  by_cases e : pl_sz (b i) = 2
  · have := pl_wide h e; omega
  · omega
theorem x_cj25 {post : SX → Prop} {J2 : Int32 → Int32 → Int32 → Int32 → Int32 → Int32 → Int32 → Int32 → Int32 → Int32 → Int32 → Int64 → (Nat → Int32) → (Nat → Int32) → (Nat → Int32) → (Nat → Int32) → (Nat → Int32) → (Nat → Int32) → (Nat → Int32) → (Nat → Int32) → (Nat → Int32) → (Nat → Int32) → (Nat → Int32) → (Nat → Int32) → (Nat → Int32) → (Nat → Int32) → (Nat → Int32) → (Nat → Int32) → (Nat → Int32) → (Nat → Int32) → (Nat → Int32) → (Nat → Int32) → (Nat → Int32) → (Nat → Int32) → (Nat → Int32) → (Nat → Int32) → Prop} {f : Nat} (hn : n ≤ 120) (hF : pl_Fmt b n) (hf : f < pl_nf b) (hb : ∀ i, i < 120 → xby i = nI (b i)) (hv : ∀ i, b i < 256) (hS : pl_ST b (pl_nf b) 0 xst) (hC : ∀ i, pl_IS b f i → ¬ pl_bad b f i)
    (kbad : ∀ i, pl_FJ b f i → J2 (nI (f + 1)) xrc xbc xfc xrn xra (nI 5) (nI i) xgn xac xlr xhm xrp xrA xrB xrC xby xhd xst xbg xco xen xre xld xim xic xih xif xop xbp xbq xsc xna xhe xlo xsk)
    (kok : (∀ i, pl_IS b f i → pl_jok b f i) → J2 (nI (f + 1)) xrc xbc xfc xrn xra 0 xfp xgn xac xlr xhm xrp xrA xrB xrC xby xhd xst xbg xco xen xre xld xim xic xih xif xop xbp xbq xsc xna xhe xlo xsk) :
    ∀ d a, a + d = pl_e b f → pl_s b f ≤ a → (∀ j, pl_IS b f j → j < a → pl_jok b f j) →
      wX_checkJumps_25 post J2 (nI f) (nI (pl_s b f)) (nI (pl_e b f)) (d + 1) (nI a) xrc xbc xfc xrn xra 0 xfp xgn xac xlr xhm xrp xrA xrB xrC xby xhd xst xbg xco xen xre xld xim xic xih xif xop xbp xbq xsc xna xhe xlo xsk := by
  have he := pl_ef hF hf
  have hh := pl_hf hF hf
  have h4 := hF.2.2.2.1
  intro d
  induction d with
  | zero =>
    intro a ha hs hj
    exact br_t (nI_le (by omega) (by omega)) (nm_r (nI_1 f) (kok fun i hi => hj i hi (by have := hi.1; omega)))
  | succ d ih =>
    intro a ha hs hj
    have B : pl_FJ b f a → wX_checkJumps_96 post J2 (wX_checkJumps_25 post J2 (nI f) (nI (pl_s b f)) (nI (pl_e b f)) (d + 1)) (nI f) (nI (pl_s b f)) (nI (pl_e b f)) (nI a) xrc xbc xfc xrn xra 0 xfp xgn xac xlr xhm xrp xrA xrB xrC xby xhd xst xbg xco xen xre xld xim xic xih xif xop xbp xbq xsc xna xhe xlo xsk := by
      intro z
      refine nm_r (nI_1 a) ?_
      cases d with
      | zero => exact br_t (nI_le (by omega) (by omega)) (nm_r (nI_1 f) (kbad a z))
      | succ d => exact br_f (nI_ge (by omega) (by omega)) (br_f (by decide) (nm_r (nI_1 f) (kbad a z)))
    have G : (pl_IS b f a → pl_jok b f a) → wX_checkJumps_25 post J2 (nI f) (nI (pl_s b f)) (nI (pl_e b f)) (d + 1) (nI (a + 1)) xrc xbc xfc xrn xra 0 xfp xgn xac xlr xhm xrp xrA xrB xrC xby xhd xst xbg xco xen xre xld xim xic xih xif xop xbp xbq xsc xna xhe xlo xsk := by
      intro z
      refine ih (a + 1) (by omega) (by omega) fun j h1 h2 => ?_
      by_cases e : j = a
      · subst e; exact z h1
      · exact hj j h1 (by omega)
    refine br_f (nI_ge (by omega) (by omega)) (br_t rfl ⟨vp_in_nI (by omega) (by omega), ?_⟩)
    rw [nI_clamp (by omega)]
    have sf := st_f hS hf hs (by omega) (by omega)
    refine br_c (fun z => nm_r (nI_1 a) (G fun h => absurd z (sf.mpr h))) fun z => ⟨vp_in_nI (by omega) (by omega), ?_⟩
    have is := sf.mp z
    rw [hb a (by omega)]
    refine x_isJump (hv a) (fun c => br_f ba_10 ?_) fun c => br_t rfl (nm_r (nI_1 a) (G fun _ c' => absurd c' c))
    have hw : a + 1 < pl_e b f := pl_wide (hC a is) (pl_sz2.mpr (by omega))
    refine x_targetB (b := b) (by omega) hb hv fun T hT => ?_
    have nj : ∀ j : Nat, pl_tg b a = (j : Int) → ¬ pl_IS b f j → pl_FJ b f a := fun j e nI' => ⟨is, fun J => by
      obtain ⟨j', h1, h2, h3⟩ := J c
      have : j = j' := by omega
      subst this
      exact nI' h3, fun j h1 h2 => hj j h2 h1⟩
    have nb : (pl_tg b a < (pl_s b f : Int) ∨ (pl_e b f : Int) ≤ pl_tg b a) → pl_FJ b f a := fun e => ⟨is, fun J => by
      obtain ⟨j', h1, h2, h3⟩ := J c
      have := h3.1
      omega, fun j h1 h2 => hj j h2 h1⟩
    refine br_c (fun h => B (nb (Or.inl (by rw [tg_lt (by omega)] at h; omega)))) fun h => br_c (fun h' => B (nb (Or.inr (by rw [tg_le (by omega)] at h'; omega)))) fun h' => ?_
    rw [tg_lt (by omega)] at h
    rw [tg_le (by omega)] at h'
    obtain ⟨j, ej⟩ : ∃ j : Nat, pl_tg b a = (j : Int) := ⟨(pl_tg b a).toNat, by omega⟩
    have eT := tg_n (hT.trans ej) (by omega)
    subst eT
    have sj := st_f hS hf (a := j) (by omega) (by omega) (by omega)
    refine ⟨vp_in_nI (by omega) (by omega), ?_⟩
    rw [nI_clamp (by omega)]
    exact br_c (fun z' => B (nj j ej fun q => sj.mpr q z')) fun z' => nm_r (nI_1 a) (G fun _ _ => ⟨j, ej, by omega, sj.mp z'⟩)
theorem x_jumps {post : SX → Prop} (hn : n ≤ 120) (hF : pl_Fmt b n) (h0 : ∀ f, f < pl_nf b → xhd f = nI (pl_hd b f)) (hb : ∀ i, i < 120 → xby i = nI (b i)) (hv : ∀ i, b i < 256) (hS : pl_ST b (pl_nf b) 0 xst)
    (hC : ∀ f, f < pl_nf b → ∀ i, pl_IS b f i → ¬ pl_bad b f i)
    (kbad : ∀ i, pl_FJA b i → post (xrc, xbc, nI (pl_nf b), xrn, xra, nI 5, nI i, xgn, xac, xlr, xhm, xrp, xrA, xrB, xrC, xby, xhd, xst, xbg, xco, xen, xre, xld, xim, xic, xih, xif, xop, xbp, xbq, xsc, xna, xhe, xlo, xsk))
    (kok : (∀ f, f < pl_nf b → ∀ i, pl_IS b f i → pl_jok b f i) → post (xrc, xbc, nI (pl_nf b), xrn, xra, 0, xfp, xgn, xac, xlr, xhm, xrp, xrA, xrB, xrC, xby, xhd, xst, xbg, xco, xen, xre, xld, xim, xic, xih, xif, xop, xbp, xbq, xsc, xna, xhe, xlo, xsk)) :
    wpX_checkJumps post (xrc, xbc, nI (pl_nf b), xrn, xra, 0, xfp, xgn, xac, xlr, xhm, xrp, xrA, xrB, xrC, xby, xhd, xst, xbg, xco, xen, xre, xld, xim, xic, xih, xif, xop, xbp, xbq, xsc, xna, xhe, xlo, xsk) := by
  have h4 := hF.2.2.2.1
  have S : ∀ (xfi xfp : Int32), ¬ xfi = 0 → post (xrc, xbc, nI (pl_nf b), xrn, xra, xfi, xfp, xgn, xac, xlr, xhm, xrp, xrA, xrB, xrC, xby, xhd, xst, xbg, xco, xen, xre, xld, xim, xic, xih, xif, xop, xbp, xbq, xsc, xna, xhe, xlo, xsk) → ∀ d f, f + d = pl_nf b → wX_checkJumps_2 post (d + 1) (nI f) xrc xbc (nI (pl_nf b)) xrn xra xfi xfp xgn xac xlr xhm xrp xrA xrB xrC xby xhd xst xbg xco xen xre xld xim xic xih xif xop xbp xbq xsc xna xhe xlo xsk := by
    intro xfi xfp hz K d
    induction d with
    | zero => intro f hf; exact br_t (nI_le (by omega) (by omega)) K
    | succ d ih =>
      intro f hf
      have he := pl_ef hF (f := f) (by omega)
      have hh := pl_hf hF (f := f) (by omega)
      have hs : pl_s b f < pl_e b f := hh
      refine br_f (nI_ge (by omega) (by omega)) ?_
      refine x_codeFirst (b := b) (by omega) (h0 f (by omega)) ?_
      refine x_codeEnd (b := b) (by omega) (h0 f (by omega)) (by omega) hb ?_
      exact ⟨1, br_f (nI_ge (by omega) (by omega)) (br_f hz (nm_r (nI_1 f) (ih (f + 1) (by omega))))⟩
  have O : ∀ d f, f + d = pl_nf b → (∀ g, g < f → ∀ j, pl_IS b g j → pl_jok b g j) → wX_checkJumps_2 post (d + 1) (nI f) xrc xbc (nI (pl_nf b)) xrn xra 0 xfp xgn xac xlr xhm xrp xrA xrB xrC xby xhd xst xbg xco xen xre xld xim xic xih xif xop xbp xbq xsc xna xhe xlo xsk := by
    intro d
    induction d with
    | zero =>
      intro f hf hg
      have : f = pl_nf b := by omega
      subst this
      exact br_t (nI_le (Nat.le_refl _) (by omega)) (kok hg)
    | succ d ih =>
      intro f hf hg
      have he := pl_ef hF (f := f) (by omega)
      have hh := pl_hf hF (f := f) (by omega)
      have hs : pl_s b f < pl_e b f := hh
      refine br_f (nI_ge (by omega) (by omega)) ?_
      refine x_codeFirst (b := b) (by omega) (h0 f (by omega)) ?_
      refine x_codeEnd (b := b) (by omega) (h0 f (by omega)) (by omega) hb ?_
      refine ⟨pl_e b f - pl_s b f + 1, x_cj25 (b := b) hn hF (by omega) hb hv hS (hC f (by omega)) (fun i hi => ?_) (fun hok => ?_) (pl_e b f - pl_s b f) (pl_s b f) (by omega) (Nat.le_refl _) fun j hj hl => absurd (pl_ISge hj) (by omega)⟩
      · exact S (nI 5) (nI i) (by decide) (kbad i ⟨f, by omega, hi, hg⟩) d (f + 1) (by omega)
      · refine ih (f + 1) (by omega) (fun g hg' => ?_)
        by_cases e : g = f
        · subst e; exact hok
        · exact hg g (by omega)
  exact ⟨_, O (pl_nf b) 0 (by omega) fun g hg => absurd hg (by omega)⟩
end B3
section B4
variable {r n : Nat} {pt M : Nat → Nat} {yru ypl ynu yps yfi yac yre : Int32} {yme : Int64} {yrp yrq yrl yby yle ypr ywa ybp ybq ybo ysc yfn yat yhi ylo yen : Nat → Int32}
theorem y_hvb (hv : ∀ i, M i < 256) (p : Nat) : ∀ i, re_b M p i < 256 := by
  intro i
  unfold re_b
  split
  · exact hv _
  · omega
theorem y_rd {p i : Nat} (hp : p ≤ 3) (hi : i < 120) : nI (M (nI (p * 120 + i)).toNatClampNeg) = nI (re_b M p i) := by
  rw [nI_clamp (by omega), re_bi hi]
theorem y_begins {post : Int32 → Prop} {p f : Nat} {T : Int32} (hp : p ≤ 3) (hn : n ≤ 120) (hF : pl_Fmt (re_b M p) n) (hf : f < pl_nf (re_b M p)) (hv : ∀ i, M i < 256) (hC : ∀ i, pl_IS (re_b M p) f i → ¬ pl_bad (re_b M p) f i)
    (k1 : ∀ j, T = nI (p * 120 + j) → pl_IS (re_b M p) f j → post 1) (k0 : (∀ j, T = nI (p * 120 + j) → ¬ pl_IS (re_b M p) f j) → post 0) : wpY_begins post (yru, ypl, ynu, yps, yfi, yac, yre, yme, yrp, yrq, yrl, fun i => nI (M i), yle, ypr, ywa, ybp, ybq, ybo, ysc, yfn, yat, yhi, ylo, yen) (nI p) (nI f) T := by
  have he := pl_ef hF hf
  have hh := pl_hf hF hf
  have hs : pl_s (re_b M p) f < pl_e (re_b M p) f := hh
  have h4 := hF.2.2.2.1
  have hi : ∀ i, i < f + 1 → pl_hd (re_b M p) i + 2 < 120 := by
    intro i h
    have := pl_hd_le (re_b M p) i f (by omega)
    omega
  unfold wpY_begins
  dsimp only
  refine y_codeEnd hp (by omega) hF.1 hi ?_
  refine y_codeStart hp (by omega) hF.1 (fun i h => hi i (by omega)) ⟨pl_e (re_b M p) f - pl_s (re_b M p) f + 1, ?_⟩
  have L : ∀ d k, pl_e (re_b M p) f ≤ pl_sc (re_b M p) (pl_s (re_b M p) f) k + d → pl_sc (re_b M p) (pl_s (re_b M p) f) k ≤ pl_e (re_b M p) f → (∀ m, m < k → ¬ T = nI (p * 120 + pl_sc (re_b M p) (pl_s (re_b M p) f) m)) →
      wY_begins_16 post T (nI (p * 120 + pl_e (re_b M p) f)) yru ypl ynu yps yfi yac yre yme yrp yrq yrl (fun i => nI (M i)) yle ypr ywa ybp ybq ybo ysc yfn yat yhi ylo yen (d + 1) (nI (p * 120 + pl_sc (re_b M p) (pl_s (re_b M p) f) k)) := by
    intro d
    have fin : ∀ k, pl_e (re_b M p) f ≤ pl_sc (re_b M p) (pl_s (re_b M p) f) k → (∀ m, m < k → ¬ T = nI (p * 120 + pl_sc (re_b M p) (pl_s (re_b M p) f) m)) → post 0 := by
      intro k h1 h3
      refine k0 fun j e hj => ?_
      obtain ⟨m, hm, rfl⟩ := y_st (k := k) hj (by have := hj.1; omega)
      exact h3 m hm e
    induction d with
    | zero =>
      intro k h1 h2 h3
      exact br_t (nI_le (by omega) (by omega)) (fin k h1 h3)
    | succ d ih =>
      intro k h1 h2 h3
      refine pk_le (p * 120 + pl_e (re_b M p) f) (p * 120 + pl_sc (re_b M p) (pl_s (re_b M p) f) k) (fun h => fin k (by omega) h3) fun h => ?_
      have is : pl_IS (re_b M p) f (pl_sc (re_b M p) (pl_s (re_b M p) f) k) := ⟨by omega, k, rfl⟩
      have nx := pl_nx (hC _ is) is.1
      have N := ih (k + 1)
      have hsc : pl_sc (re_b M p) (pl_s (re_b M p) f) (k + 1) = pl_sc (re_b M p) (pl_s (re_b M p) f) k + pl_sz (re_b M p (pl_sc (re_b M p) (pl_s (re_b M p) f) k)) := rfl
      have vb := y_hvb hv p (pl_sc (re_b M p) (pl_s (re_b M p) f) k)
      have hz := pl_sz_pos (re_b M p (pl_sc (re_b M p) (pl_s (re_b M p) f) k))
      refine br_c (fun e => k1 _ e.symm is) fun e => ⟨vp_in_nI (by omega) (by omega), ?_⟩
      have N2 := N (by omega) (by omega) fun m hm => by
        by_cases em : m = k
        · subst em; exact fun z => e z.symm
        · exact h3 m (by omega)
      rw [hsc] at N2
      dsimp only
      rw [y_rd hp (by omega)]
      refine y_wide vb (fun hw => br_f ba_10 (nm_r (show _ = nI (p * 120 + (pl_sc (re_b M p) (pl_s (re_b M p) f) k + 2)) from nI_add _ 2) ?_)) fun hw => br_t rfl (nm_r (show _ = nI (p * 120 + (pl_sc (re_b M p) (pl_s (re_b M p) f) k + 1)) from nI_1 _) ?_)
      · rw [hw] at N2; exact N2
      · rw [hw] at N2; exact N2
  exact L (pl_e (re_b M p) f - pl_s (re_b M p) f) 0 (by show _ ≤ pl_s (re_b M p) f + _; omega) (by show pl_s (re_b M p) f ≤ _; omega) fun m hm => absurd hm (by omega)
theorem y_jumps {post : Int32 → SY → Prop} {f : Nat} (hn : n ≤ 120) (hF : pl_Fmt (re_b M 3) n) (hf : f < pl_nf (re_b M 3)) (hv : ∀ i, M i < 256) (hC : ∀ i, pl_IS (re_b M 3) f i → ¬ pl_bad (re_b M 3) f i)
    (kbad : ∀ i, pl_FJ (re_b M 3) f i → post 0 (yru, nI i, ynu, yps, nI 5, yac, yre, yme, yrp, yrq, yrl, fun i => nI (M i), yle, ypr, ywa, ybp, ybq, ybo, ysc, yfn, yat, yhi, ylo, yen))
    (kok : (∀ i, pl_IS (re_b M 3) f i → pl_jok (re_b M 3) f i) → post 1 (yru, ypl, ynu, yps, yfi, yac, yre, yme, yrp, yrq, yrl, fun i => nI (M i), yle, ypr, ywa, ybp, ybq, ybo, ysc, yfn, yat, yhi, ylo, yen)) : wpY_jumps post (yru, ypl, ynu, yps, yfi, yac, yre, yme, yrp, yrq, yrl, fun i => nI (M i), yle, ypr, ywa, ybp, ybq, ybo, ysc, yfn, yat, yhi, ylo, yen) (nI f) := by
  have he := pl_ef hF hf
  have hh := pl_hf hF hf
  have hs : pl_s (re_b M 3) f < pl_e (re_b M 3) f := hh
  have h4 := hF.2.2.2.1
  have hi : ∀ i, i < f + 1 → pl_hd (re_b M 3) i + 2 < 120 := by
    intro i h
    have := pl_hd_le (re_b M 3) i f (by omega)
    omega
  unfold wpY_jumps
  dsimp only
  refine y_codeEnd (p := 3) (by omega) (by omega) hF.1 hi ?_
  refine y_codeStart (p := 3) (by omega) (by omega) hF.1 (fun i h => hi i (by omega)) ⟨pl_e (re_b M 3) f - pl_s (re_b M 3) f + 1, ?_⟩
  have L : ∀ d k, pl_e (re_b M 3) f ≤ pl_sc (re_b M 3) (pl_s (re_b M 3) f) k + d → pl_sc (re_b M 3) (pl_s (re_b M 3) f) k ≤ pl_e (re_b M 3) f → (∀ m, m < k → pl_jok (re_b M 3) f (pl_sc (re_b M 3) (pl_s (re_b M 3) f) m)) →
      wY_jumps_14 post (nI f) (nI (3 * 120 + pl_e (re_b M 3) f)) yru ypl ynu yps yfi yac yre yme yrp yrq yrl (fun i => nI (M i)) yle ypr ywa ybp ybq ybo ysc yfn yat yhi ylo yen (d + 1) (nI (3 * 120 + pl_sc (re_b M 3) (pl_s (re_b M 3) f) k)) := by
    have fin : ∀ k, pl_e (re_b M 3) f ≤ pl_sc (re_b M 3) (pl_s (re_b M 3) f) k → (∀ m, m < k → pl_jok (re_b M 3) f (pl_sc (re_b M 3) (pl_s (re_b M 3) f) m)) → post 1 (yru, ypl, ynu, yps, yfi, yac, yre, yme, yrp, yrq, yrl, fun i => nI (M i), yle, ypr, ywa, ybp, ybq, ybo, ysc, yfn, yat, yhi, ylo, yen) := by
      intro k h1 h3
      refine kok fun j hj => ?_
      obtain ⟨m, hm, rfl⟩ := y_st (k := k) hj (by have := hj.1; omega)
      exact h3 m hm
    intro d
    induction d with
    | zero =>
      intro k h1 h2 h3
      exact br_t (nI_le (by omega) (by omega)) (fin k h1 h3)
    | succ d ih =>
      intro k h1 h2 h3
      refine pk_le (3 * 120 + pl_e (re_b M 3) f) (3 * 120 + pl_sc (re_b M 3) (pl_s (re_b M 3) f) k) (fun h => fin k (by omega) h3) fun h => ?_
      have is : pl_IS (re_b M 3) f (pl_sc (re_b M 3) (pl_s (re_b M 3) f) k) := ⟨by omega, k, rfl⟩
      have nx := pl_nx (hC _ is) is.1
      have N := ih (k + 1)
      have hsc : pl_sc (re_b M 3) (pl_s (re_b M 3) f) (k + 1) = pl_sc (re_b M 3) (pl_s (re_b M 3) f) k + pl_sz (re_b M 3 (pl_sc (re_b M 3) (pl_s (re_b M 3) f) k)) := rfl
      have vb := y_hvb hv 3 (pl_sc (re_b M 3) (pl_s (re_b M 3) f) k)
      have hz := pl_sz_pos (re_b M 3 (pl_sc (re_b M 3) (pl_s (re_b M 3) f) k))
      have hw := fun z => pl_wide (hC _ is) z
      have N2 := fun (z : pl_jok (re_b M 3) f (pl_sc (re_b M 3) (pl_s (re_b M 3) f) k)) => N (by omega) (by omega) fun m hm => (show pl_jok (re_b M 3) f (pl_sc (re_b M 3) (pl_s (re_b M 3) f) m) by
        by_cases em : m = k
        · subst em; exact z
        · exact h3 m (by omega))
      rw [hsc] at N2
      have FJ : ¬ pl_jok (re_b M 3) f (pl_sc (re_b M 3) (pl_s (re_b M 3) f) k) → pl_FJ (re_b M 3) f (pl_sc (re_b M 3) (pl_s (re_b M 3) f) k) := fun z => ⟨is, z, fun j hj hjs => by
        obtain ⟨m, hm, rfl⟩ := y_st (k := k) hjs hj
        exact h3 m hm⟩
      generalize ei : pl_sc (re_b M 3) (pl_s (re_b M 3) f) k = i at *
      have V : vp_in (nI (3 * 120 + i)) 480 := vp_in_nI (by omega) (by omega)
      have s73 : pl_jok (re_b M 3) f i → wY_jumps_73 post (wY_jumps_14 post (nI f) (nI (3 * 120 + pl_e (re_b M 3) f)) yru ypl ynu yps yfi yac yre yme yrp yrq yrl (fun i => nI (M i)) yle ypr ywa ybp ybq ybo ysc yfn yat yhi ylo yen (d + 1)) (nI f) (nI (3 * 120 + pl_e (re_b M 3) f)) (nI (3 * 120 + i)) yru ypl ynu yps yfi yac yre yme yrp yrq yrl (fun i => nI (M i)) yle ypr ywa ybp ybq ybo ysc yfn yat yhi ylo yen := by
        intro z
        have N3 := N2 z
        refine ⟨V, ?_⟩
        dsimp only
        rw [y_rd (p := 3) (by omega) (by omega)]
        refine y_wide vb (fun hw => br_f ba_10 (nm_r (show _ = nI (3 * 120 + (i + 2)) from nI_add _ 2) ?_)) fun hw => br_t rfl (nm_r (show _ = nI (3 * 120 + (i + 1)) from nI_1 _) ?_)
        · rw [hw] at N3; exact N3
        · rw [hw] at N3; exact N3
      have s44 : (re_b M 3 i = 10 ∨ re_b M 3 i = 11) → wY_jumps_44 post (wY_jumps_14 post (nI f) (nI (3 * 120 + pl_e (re_b M 3) f)) yru ypl ynu yps yfi yac yre yme yrp yrq yrl (fun i => nI (M i)) yle ypr ywa ybp ybq ybo ysc yfn yat yhi ylo yen (d + 1)) (nI f) (nI (3 * 120 + pl_e (re_b M 3) f)) (nI (3 * 120 + i)) yru ypl ynu yps yfi yac yre yme yrp yrq yrl (fun i => nI (M i)) yle ypr ywa ybp ybq ybo ysc yfn yat yhi ylo yen := by
        intro c
        have h1 := hw (pl_sz2.mpr (by omega))
        refine y_target (p := 3) (by omega) (by omega) hv fun T hT => ?_
        have sgb := tg_sgb (y_hvb hv 3 (i + 1))
        have tgd : pl_tg (re_b M 3) i = (i : Int) + 2 + pl_sg (re_b M 3 (i + 1)) := rfl
        refine y_begins (p := 3) (by omega) hn hF hf hv hC (fun j ej hj => br_f ba_10 (s73 fun _ => ⟨j, ?_, pl_ISge hj, hj⟩)) fun hj => br_t rfl ?_
        · have := hj.1
          rw [ej, nI_toInt (by omega)] at hT
          omega
        · refine ⟨ba_nb0, ?_⟩
          rw [show nI (3 * 120 + i) - 360 = nI i from y_sub]
          refine kbad i (FJ fun J => ?_)
          obtain ⟨j, h5, h6, h7⟩ := J c
          have := h7.1
          exact hj j (tg_n (by rw [hT, h5]; omega) (by omega)) h7
      refine ⟨V, ?_⟩
      dsimp only
      rw [y_rd (p := 3) (by omega) (by omega)]
      exact pk_eq (re_b M 3 i) 10 (fun c => s44 (Or.inl c)) fun c => ⟨V, pk_eq (re_b M 3 i) 11 (fun c' => s44 (Or.inr c')) fun c' => s73 fun z => absurd z (by omega)⟩
  exact L (pl_e (re_b M 3) f - pl_s (re_b M 3) f) 0 (by show _ ≤ pl_s (re_b M 3) f + _; omega) (by show pl_s (re_b M 3) f ≤ _; omega) fun m hm => absurd hm (by omega)
end B4
end
section
section B5
/-! the flow check, pure: E a = 0: not reached, h + 1: reached with h entries; rl: the list of the reached -/
def fl_cn (E : Nat → Nat) (s : Nat) : Nat → Nat
  | 0 => 0
  | d + 1 => fl_cn E s d + (if E (s + d) = 0 then 0 else 1)
theorem fl_cn_le (E : Nat → Nat) (s : Nat) : ∀ d, fl_cn E s d ≤ d := by
  intro d
  induction d with
  | zero => exact Nat.le_refl _
  | succ d ih =>
    show fl_cn E s d + _ ≤ _
    split <;> omega
theorem fl_cn_lt {E : Nat → Nat} {s a : Nat} (h0 : E a = 0) (h1 : s ≤ a) : ∀ d, a < s + d → fl_cn E s d < d := by
  intro d
  induction d with
  | zero => intro h; omega
  | succ d ih =>
    intro h
    show fl_cn E s d + _ < _
    by_cases e : a = s + d
    · subst e
      rw [if_pos h0]
      have := fl_cn_le E s d
      omega
    · have := ih (by omega)
      split <;> omega
theorem fl_cn_out {E : Nat → Nat} {s a v : Nat} : ∀ d, s + d ≤ a → fl_cn (um_f E a v) s d = fl_cn E s d := by
  intro d
  induction d with
  | zero => intro _; rfl
  | succ d ih =>
    intro h
    show fl_cn (um_f E a v) s d + (if um_f E a v (s + d) = 0 then 0 else 1) = fl_cn E s d + _
    rw [ih (by omega), um_n (by omega)]
theorem fl_cn_in {E : Nat → Nat} {s a v : Nat} (h0 : E a = 0) (h1 : s ≤ a) (hv : v ≠ 0) : ∀ d, a < s + d → fl_cn (um_f E a v) s d = fl_cn E s d + 1 := by
  intro d
  induction d with
  | zero => intro h; omega
  | succ d ih =>
    intro h
    show fl_cn (um_f E a v) s d + (if um_f E a v (s + d) = 0 then 0 else 1) = fl_cn E s d + (if E (s + d) = 0 then 0 else 1) + 1
    by_cases e : a = s + d
    · subst e
      rw [fl_cn_out d (by omega), um_s, if_neg hv, if_pos h0]
    · rw [ih (by omega), um_n (by omega)]
      omega
def fl_WI (b : Nat → Nat) (f c : Nat) (E rl : Nat → Nat) : Prop :=
  c ≤ 40 ∧ (∀ i, i < c → pl_s b f ≤ rl i ∧ pl_IS b f (rl i) ∧ 1 ≤ E (rl i)) ∧ (∀ a, pl_s b f ≤ a → a < pl_e b f → 1 ≤ E a → ∃ i, i < c ∧ rl i = a) ∧ (∀ a, E a ≤ 7) ∧ c = fl_cn E (pl_s b f) (pl_e b f - pl_s b f)
/-- grown: what was reached stays as it was -/
def fl_XT (c c' : Nat) (E E' rl rl' : Nat → Nat) : Prop := c ≤ c' ∧ (∀ a, 1 ≤ E a → E' a = E a) ∧ ∀ i, i < c → rl' i = rl i
def fl_SR (b : Nat → Nat) (f : Nat) (R : Nat → Nat → Prop) (E : Nat → Nat) : Prop := ∀ a, pl_s b f ≤ a → a < pl_e b f → 1 ≤ E a → R a (E a - 1)
def fl_CL (b : Nat → Nat) (f : Nat) (E : Nat → Nat) (i : Nat) : Prop :=
  pl_tk b i ≤ E i - 1 ∧ E i - 1 - pl_tk b i + pl_gv (b i) ≤ 6 ∧
    ((b i = 10 ∨ b i = 11) → ∃ j : Nat, pl_tg b i = (j : Int) ∧ pl_s b f ≤ j ∧ j < pl_e b f ∧ E j = E i - 1 - pl_tk b i + pl_gv (b i) + 1) ∧
    (b i ≠ 10 → b i ≠ 16 → i + pl_sz (b i) < pl_e b f ∧ E (i + pl_sz (b i)) = E i - 1 - pl_tk b i + pl_gv (b i) + 1)
theorem fl_CLx {b : Nat → Nat} {f c c' i : Nat} {E E' rl rl' : Nat → Nat} (hx : fl_XT c c' E E' rl rl') (hi : 1 ≤ E i) (h : fl_CL b f E i) : fl_CL b f E' i := by
  have e := hx.2.1 i hi
  unfold fl_CL
  rw [e]
  obtain ⟨h1, h2, h3, h4⟩ := h
  refine ⟨h1, h2, fun z => ?_, fun z1 z2 => ?_⟩
  · obtain ⟨j, g1, g2, g3, g4⟩ := h3 z
    exact ⟨j, g1, g2, g3, by rw [hx.2.1 j (by omega)]; exact g4⟩
  · obtain ⟨g1, g2⟩ := h4 z1 z2
    exact ⟨g1, by rw [hx.2.1 _ (by omega)]; exact g2⟩
theorem fl_XTr {c c' c'' : Nat} {E E' E'' rl rl' rl'' : Nat → Nat} (h : fl_XT c c' E E' rl rl') (h' : fl_XT c' c'' E' E'' rl' rl'') : fl_XT c c'' E E'' rl rl'' := by
  refine ⟨by have := h.1; have := h'.1; omega, fun a ha => ?_, fun i hi => ?_⟩
  · rw [h'.2.1 a (by rw [h.2.1 a ha]; exact ha), h.2.1 a ha]
  · rw [h'.2.2 i (by have := h.1; omega), h.2.2 i hi]
theorem fl_XT0 {c : Nat} {E rl : Nat → Nat} : fl_XT c c E E rl rl := ⟨Nat.le_refl _, fun _ _ => rfl, fun _ _ => rfl⟩
/-- closed: the reached instructions are a good set of ways -/
theorem fl_good {b : Nat → Nat} {f c : Nat} {E rl : Nat → Nat} (hW : fl_WI b f c E rl) (hs : pl_s b f < pl_e b f) (h0 : E (pl_s b f) = 1) (hC : ∀ i, i < c → fl_CL b f E (rl i)) : pl_Flow b f := by
  refine ⟨fun a h => pl_s b f ≤ a ∧ a < pl_e b f ∧ E a = h + 1, ⟨Nat.le_refl _, hs, h0⟩, fun i h h' h1 h2 => by omega, fun i h hR => ?_⟩
  obtain ⟨i', h1, rfl⟩ := hW.2.2.1 i hR.1 hR.2.1 (by omega)
  have eh : h = E (rl i') - 1 := by have := hR.2.2; omega
  obtain ⟨g1, g2, g3, g4⟩ := hC i' h1
  rw [eh]
  have hr := hW.2.1 i' h1
  refine ⟨g1, g2, fun z => ?_, fun z1 z2 => ?_⟩
  · obtain ⟨j, q1, q2, q3, q4⟩ := g3 z
    exact ⟨j, q1, q2, q3, q2, q3, q4⟩
  · obtain ⟨q1, q2⟩ := g4 z1 z2
    exact ⟨q1, by omega, q1, q2⟩
end B5
section B6
variable {r n : Nat} {pt M b : Nat → Nat} {xrc xbc xfc xrn xra xfi xfp xgn xac xlr : Int32} {xhm : Int64} {xrp xrA xrB xrC xby xhd xst xbg xco xen xre xld xim xic xih xif xop xbp xbq xsc xna xhe xlo xsk : Nat → Int32} {yru ypl ynu yps yfi yac yre : Int32} {yme : Int64} {yrp yrq yrl yby yle ypr ywa ybp ybq ybo ysc yfn yat yhi ylo yen : Nat → Int32}
theorem pl_tk2 {b : Nat → Nat} {n f i : Nat} (hF : pl_Fmt b n) (hc : ¬ pl_bad b f i) : pl_tk b i ≤ 2 := by
  unfold pl_tk
  split
  · rename_i h
    unfold pl_bad at hc
    have h2 : pl_sz (b i) = 2 := pl_sz2.mpr (by omega)
    have h3 : pl_li b f (b i) = pl_nf b := by unfold pl_li; rw [h]; rfl
    exact (hF.2.2.2.2.1 (b (i + 1)) (by omega)).1
  · split
    · omega
    · split <;> omega
theorem pl_gv2 (c : Nat) : pl_gv c ≤ 2 := by
  unfold pl_gv
  split
  · omega
  · split <;> omega
theorem pl_call {b : Nat → Nat} {f i : Nat} (hc : ¬ pl_bad b f i) (h : b i = 12) : b (i + 1) < pl_nf b := by
  unfold pl_bad at hc
  have h2 : pl_sz (b i) = 2 := pl_sz2.mpr (by omega)
  have h3 : pl_li b f (b i) = pl_nf b := by unfold pl_li; rw [h]; rfl
  omega
theorem x_taken {post : Int32 → Prop} {f a : Nat} (hn : n ≤ 120) (hF : pl_Fmt b n) (hf : f < pl_nf b) (h0 : ∀ f, f < pl_nf b → xhd f = nI (pl_hd b f)) (hb : ∀ i, i < 120 → xby i = nI (b i)) (hv : ∀ i, b i < 256) (ha : a < pl_e b f) (hc : ¬ pl_bad b f a)
    (k : post (nI (pl_tk b a))) : wpX_entriesTaken post (xrc, xbc, xfc, xrn, xra, xfi, xfp, xgn, xac, xlr, xhm, xrp, xrA, xrB, xrC, xby, xhd, xst, xbg, xco, xen, xre, xld, xim, xic, xih, xif, xop, xbp, xbq, xsc, xna, xhe, xlo, xsk) (nI a) := by
  have he := pl_ef hF hf
  have h4 := hF.2.2.2.1
  unfold wpX_entriesTaken
  dsimp only
  rw [nI_clamp (by omega), hb a (by omega)]
  refine ⟨vp_in_nI (by omega) (by omega), nm_e ?_⟩
  have h16 : b a ≤ 16 := by unfold pl_bad at hc; omega
  rcases c17 h16 with e | e | e | e | e | e | e | e | e | e | e | e | e | e | e | e | e
  · have hw := pl_call hc
    rw [show pl_tk b a = 0 by simp [pl_tk, e]] at k
    rw [e]
    exact br_f (by decide) (br_f (by decide) (br_t (by decide) k))
  · have hw := pl_call hc
    rw [show pl_tk b a = 0 by simp [pl_tk, e]] at k
    rw [e]
    exact br_f (by decide) (br_f (by decide) (br_f (by decide) (br_t (by decide) k)))
  · have hw := pl_call hc
    rw [show pl_tk b a = 1 by simp [pl_tk, e]] at k
    rw [e]
    exact br_f (by decide) (br_f (by decide) (br_f (by decide) (br_f (by decide) (br_t (by decide) k))))
  · have hw := pl_call hc
    rw [show pl_tk b a = 2 by simp [pl_tk, e]] at k
    rw [e]
    exact br_f (by decide) (br_f (by decide) (br_f (by decide) (br_f (by decide) (br_f (by decide) (br_t (by decide) k)))))
  · have hw := pl_call hc
    rw [show pl_tk b a = 2 by simp [pl_tk, e]] at k
    rw [e]
    exact br_f (by decide) (br_f (by decide) (br_f (by decide) (br_f (by decide) (br_f (by decide) (br_f (by decide) (br_t (by decide) k))))))
  · have hw := pl_call hc
    rw [show pl_tk b a = 2 by simp [pl_tk, e]] at k
    rw [e]
    exact br_f (by decide) (br_f (by decide) (br_f (by decide) (br_f (by decide) (br_f (by decide) (br_f (by decide) (br_f (by decide) (br_t (by decide) k)))))))
  · have hw := pl_call hc
    rw [show pl_tk b a = 2 by simp [pl_tk, e]] at k
    rw [e]
    exact br_f (by decide) (br_f (by decide) (br_f (by decide) (br_f (by decide) (br_f (by decide) (br_f (by decide) (br_f (by decide) (br_f (by decide) (br_t (by decide) k))))))))
  · have hw := pl_call hc
    rw [show pl_tk b a = 2 by simp [pl_tk, e]] at k
    rw [e]
    exact br_f (by decide) (br_f (by decide) (br_f (by decide) (br_f (by decide) (br_f (by decide) (br_f (by decide) (br_f (by decide) (br_f (by decide) (br_f (by decide) (br_t (by decide) k)))))))))
  · have hw := pl_call hc
    rw [show pl_tk b a = 1 by simp [pl_tk, e]] at k
    rw [e]
    exact br_f (by decide) (br_f (by decide) (br_f (by decide) (br_f (by decide) (br_f (by decide) (br_f (by decide) (br_f (by decide) (br_f (by decide) (br_f (by decide) (br_f (by decide) (br_t (by decide) k))))))))))
  · have hw := pl_call hc
    rw [show pl_tk b a = 1 by simp [pl_tk, e]] at k
    rw [e]
    exact br_f (by decide) (br_f (by decide) (br_f (by decide) (br_f (by decide) (br_f (by decide) (br_f (by decide) (br_f (by decide) (br_f (by decide) (br_f (by decide) (br_f (by decide) (br_f (by decide) (br_t (by decide) k)))))))))))
  · have hw := pl_call hc
    rw [show pl_tk b a = 0 by simp [pl_tk, e]] at k
    rw [e]
    exact br_f (by decide) (br_f (by decide) (br_f (by decide) (br_f (by decide) (br_f (by decide) (br_f (by decide) (br_f (by decide) (br_f (by decide) (br_f (by decide) (br_f (by decide) (br_f (by decide) (br_f (by decide) (br_t (by decide) k))))))))))))
  · have hw := pl_call hc
    rw [show pl_tk b a = 1 by simp [pl_tk, e]] at k
    rw [e]
    exact br_f (by decide) (br_f (by decide) (br_f (by decide) (br_f (by decide) (br_f (by decide) (br_f (by decide) (br_f (by decide) (br_f (by decide) (br_f (by decide) (br_f (by decide) (br_f (by decide) (br_f (by decide) (br_f (by decide) (br_t (by decide) k)))))))))))))
  · have hw := pl_call hc
    rw [e]
    have hg := hw e
    have hw2 : a + 1 < pl_e b f := pl_wide hc (pl_sz2.mpr (by omega))
    have hgh := pl_hf hF hg
    have hge := pl_ef hF hg
    rw [show pl_tk b a = b (pl_hd b (b (a + 1))) by simp [pl_tk, e]] at k
    rw [nI_1, nI_clamp (by omega), hb (a + 1) (by omega), nI_clamp (by omega), h0 _ hg, nI_clamp (by omega), hb (pl_hd b (b (a + 1))) (by omega)]
    exact br_f (by decide) (br_f (by decide) (br_f (by decide) (br_f (by decide) (br_f (by decide) (br_f (by decide) (br_f (by decide) (br_f (by decide) (br_f (by decide) (br_f (by decide) (br_f (by decide) (br_f (by decide) (br_f (by decide) (br_f (by decide) (br_t (by decide) ⟨vp_in_nI (by omega) (by omega), vp_in_nI (by omega) (by omega), vp_in_nI (by omega) (by omega), k⟩))))))))))))))
  · have hw := pl_call hc
    rw [show pl_tk b a = 1 by simp [pl_tk, e]] at k
    rw [e]
    exact br_f (by decide) (br_f (by decide) (br_f (by decide) (br_f (by decide) (br_f (by decide) (br_f (by decide) (br_f (by decide) (br_f (by decide) (br_f (by decide) (br_f (by decide) (br_f (by decide) (br_f (by decide) (br_f (by decide) (br_f (by decide) (br_f (by decide) (br_t (by decide) k)))))))))))))))
  · have hw := pl_call hc
    rw [show pl_tk b a = 0 by simp [pl_tk, e]] at k
    rw [e]
    exact br_f (by decide) (br_f (by decide) (br_f (by decide) (br_f (by decide) (br_f (by decide) (br_f (by decide) (br_f (by decide) (br_f (by decide) (br_f (by decide) (br_f (by decide) (br_f (by decide) (br_f (by decide) (br_f (by decide) (br_f (by decide) (br_f (by decide) (br_f (by decide) (br_t (by decide) k))))))))))))))))
  · have hw := pl_call hc
    rw [show pl_tk b a = 1 by simp [pl_tk, e]] at k
    rw [e]
    exact br_f (by decide) (br_t (by decide) k)
  · have hw := pl_call hc
    rw [show pl_tk b a = 1 by simp [pl_tk, e]] at k
    rw [e]
    exact br_f (by decide) (br_t (by decide) k)
theorem x_given {post : Int32 → Prop} {c : Nat} (hc : c ≤ 16) (k : post (nI (pl_gv c))) : wpX_entriesGiven post (xrc, xbc, xfc, xrn, xra, xfi, xfp, xgn, xac, xlr, xhm, xrp, xrA, xrB, xrC, xby, xhd, xst, xbg, xco, xen, xre, xld, xim, xic, xih, xif, xop, xbp, xbq, xsc, xna, xhe, xlo, xsk) (nI c) := by
  unfold wpX_entriesGiven
  dsimp only
  rcases c17 hc with rfl | rfl | rfl | rfl | rfl | rfl | rfl | rfl | rfl | rfl | rfl | rfl | rfl | rfl | rfl | rfl | rfl
  · exact br_t (by decide) k
  · exact br_t (by decide) k
  · exact br_f (by decide) (br_f (by decide) (br_t (by decide) k))
  · exact br_f (by decide) (br_f (by decide) (br_f (by decide) (br_t (by decide) k)))
  · exact br_f (by decide) (br_f (by decide) (br_f (by decide) (br_f (by decide) (br_t (by decide) k))))
  · exact br_f (by decide) (br_f (by decide) (br_f (by decide) (br_f (by decide) (br_f (by decide) (br_t (by decide) k)))))
  · exact br_f (by decide) (br_f (by decide) (br_f (by decide) (br_f (by decide) (br_f (by decide) (br_f (by decide) (br_t (by decide) k))))))
  · exact br_f (by decide) (br_f (by decide) (br_f (by decide) (br_f (by decide) (br_f (by decide) (br_f (by decide) (br_f (by decide) (br_t (by decide) k)))))))
  · exact br_f (by decide) (br_f (by decide) (br_f (by decide) (br_f (by decide) (br_f (by decide) (br_f (by decide) (br_f (by decide) (br_f (by decide) (br_t (by decide) k))))))))
  · exact br_f (by decide) (br_f (by decide) (br_f (by decide) (br_f (by decide) (br_f (by decide) (br_f (by decide) (br_f (by decide) (br_f (by decide) (br_f (by decide) (br_t (by decide) k)))))))))
  · exact br_f (by decide) (br_f (by decide) (br_f (by decide) (br_f (by decide) (br_f (by decide) (br_f (by decide) (br_f (by decide) (br_f (by decide) (br_f (by decide) (br_f (by decide) (br_t (by decide) k))))))))))
  · exact br_f (by decide) (br_f (by decide) (br_f (by decide) (br_f (by decide) (br_f (by decide) (br_f (by decide) (br_f (by decide) (br_f (by decide) (br_f (by decide) (br_f (by decide) (br_f (by decide) (br_t (by decide) k)))))))))))
  · exact br_f (by decide) (br_f (by decide) (br_f (by decide) (br_f (by decide) (br_f (by decide) (br_f (by decide) (br_f (by decide) (br_f (by decide) (br_f (by decide) (br_f (by decide) (br_f (by decide) (br_f (by decide) (br_t (by decide) k))))))))))))
  · exact br_f (by decide) (br_f (by decide) (br_f (by decide) (br_f (by decide) (br_f (by decide) (br_f (by decide) (br_f (by decide) (br_f (by decide) (br_f (by decide) (br_f (by decide) (br_f (by decide) (br_f (by decide) (br_f (by decide) (br_t (by decide) k)))))))))))))
  · exact br_f (by decide) (br_f (by decide) (br_f (by decide) (br_f (by decide) (br_f (by decide) (br_f (by decide) (br_f (by decide) (br_f (by decide) (br_f (by decide) (br_f (by decide) (br_f (by decide) (br_f (by decide) (br_f (by decide) (br_f (by decide) (br_t (by decide) k))))))))))))))
  · exact br_f (by decide) (br_f (by decide) (br_f (by decide) (br_f (by decide) (br_f (by decide) (br_f (by decide) (br_f (by decide) (br_f (by decide) (br_f (by decide) (br_f (by decide) (br_f (by decide) (br_f (by decide) (br_f (by decide) (br_f (by decide) (br_f (by decide) (br_t (by decide) k)))))))))))))))
  · exact br_f (by decide) (br_f (by decide) (br_f (by decide) (br_f (by decide) (br_f (by decide) (br_f (by decide) (br_f (by decide) (br_f (by decide) (br_f (by decide) (br_f (by decide) (br_f (by decide) (br_f (by decide) (br_f (by decide) (br_f (by decide) (br_f (by decide) (br_f (by decide) (br_t (by decide) k))))))))))))))))
def fl_EC (s e c : Nat) (E rl : Nat → Nat) (en re : Nat → Int32) : Prop := (∀ a, s ≤ a → a < e → en a = nI (E a) - 1) ∧ ∀ i, i < c → re i = nI (rl i)
theorem fl_m1 {m : Nat} (h : m ≤ 7) : nI m - 1 = -1 ↔ m = 0 := by
  cases m with
  | zero => exact ⟨fun _ => rfl, fun _ => by decide⟩
  | succ m =>
    rw [nI_pred]
    exact ⟨fun z => absurd z (ba_m1ne (by omega)), fun z => absurd z (by omega)⟩
theorem fl_eq {m h : Nat} (hm : m ≤ 7) (hh : h ≤ 6) : nI m - 1 = nI h ↔ m = h + 1 := by
  cases m with
  | zero => exact ⟨fun z => absurd (show nI h = -1 from z.symm.trans (by decide)) (ba_m1ne (by omega)), fun z => absurd z (by omega)⟩
  | succ m =>
    rw [nI_pred, nI_eq (by omega) (by omega)]
    omega
theorem x_reach {post : Int32 → SX → Prop} {f a h c : Nat} {E rl : Nat → Nat} (hn : n ≤ 120) (hF : pl_Fmt b n) (hf : f < pl_nf b) (hW : fl_WI b f c E rl) (hE : fl_EC (pl_s b f) (pl_e b f) c E rl xen xre) (hs : pl_s b f ≤ a) (ha : a ≤ 120) (hI : a < pl_e b f → pl_IS b f a) (hh : h ≤ 6)
    (k1 : ∀ (c' : Nat) (E' rl' : Nat → Nat) (xen xre : Nat → Int32), fl_WI b f c' E' rl' → fl_EC (pl_s b f) (pl_e b f) c' E' rl' xen xre → fl_XT c c' E E' rl rl' → a < pl_e b f → E' a = h + 1 → (∀ R : Nat → Nat → Prop, fl_SR b f R E → R a h → fl_SR b f R E') → post 1 (xrc, xbc, xfc, nI c', xra, xfi, xfp, xgn, xac, xlr, xhm, xrp, xrA, xrB, xrC, xby, xhd, xst, xbg, xco, xen, xre, xld, xim, xic, xih, xif, xop, xbp, xbq, xsc, xna, xhe, xlo, xsk))
    (k0 : (∀ R : Nat → Nat → Prop, (∀ i h h', R i h → R i h' → h = h') → fl_SR b f R E → a < pl_e b f → ¬ R a h) → post 0 (xrc, xbc, xfc, nI c, xra, xfi, xfp, xgn, xac, xlr, xhm, xrp, xrA, xrB, xrC, xby, xhd, xst, xbg, xco, xen, xre, xld, xim, xic, xih, xif, xop, xbp, xbq, xsc, xna, xhe, xlo, xsk)) : wpX_reach post (xrc, xbc, xfc, nI c, xra, xfi, xfp, xgn, xac, xlr, xhm, xrp, xrA, xrB, xrC, xby, xhd, xst, xbg, xco, xen, xre, xld, xim, xic, xih, xif, xop, xbp, xbq, xsc, xna, xhe, xlo, xsk) (nI a) (nI (pl_e b f)) (nI h) := by
  have he := pl_ef hF hf
  have hsl := pl_sl hF hf
  unfold wpX_reach
  dsimp only
  refine pk_lt a (pl_e b f) (fun g => ?_) fun g => k0 fun R _ _ z => absurd z (by omega)
  have e7 := hW.2.2.2.1 a
  rw [nI_clamp (by omega), hE.1 a hs g]
  refine ⟨vp_in_nI (by omega) (by omega), ?_⟩
  by_cases z : E a = 0
  · refine br_t ((fl_m1 e7).mpr z) ?_
    have hc : c < 40 := by
      have h1 := hW.2.2.2.2
      have h2 := fl_cn_lt z hs (pl_e b f - pl_s b f) (by omega)
      omega
    refine br_f (nI_ge (b := 40) hc (by decide)) ⟨vp_in_nI (by omega) (by omega), nm_e ⟨vp_in_nI hc (by omega), nm_r (show _ = upd xre c (nI a) by rw [nI_clamp (by omega)]) (nm_r (nI_1 c) ⟨vp_in_nI (by omega) (by omega), ?_⟩)⟩⟩
    rw [nI_clamp (by omega)]
    refine br_t pk_us (k1 (c + 1) (um_f E a (h + 1)) (um_f rl c a) _ _ ?_ ?_ ?_ g um_s ?_)
    · refine ⟨by omega, fun i hi => ?_, fun a' h1 h2 h3 => ?_, fun a' => ?_, ?_⟩
      · by_cases e : i = c
        · subst e; rw [um_s, um_s]; exact ⟨hs, hI g, by omega⟩
        · rw [um_n e]
          obtain ⟨q1, q2, q3⟩ := hW.2.1 i (by omega)
          refine ⟨q1, q2, ?_⟩
          by_cases e2 : rl i = a
          · rw [e2] at q3; omega
          · rw [um_n e2]; exact q3
      · by_cases e : a' = a
        · exact ⟨c, by omega, by rw [um_s, e]⟩
        · rw [um_n e] at h3
          obtain ⟨i, q1, q2⟩ := hW.2.2.1 a' h1 h2 h3
          exact ⟨i, by omega, by rw [um_n (by omega)]; exact q2⟩
      · by_cases e : a' = a
        · subst e; rw [um_s]; omega
        · rw [um_n e]; exact hW.2.2.2.1 a'
      · rw [fl_cn_in z hs (by omega) _ (by omega), ← hW.2.2.2.2]
    · refine ⟨fun a' h1 h2 => ?_, fun i hi => ?_⟩
      · by_cases e : a' = a
        · subst e; rw [pk_us, um_s, nI_pred]
        · rw [pk_un e, um_n e]; exact hE.1 a' h1 h2
      · by_cases e : i = c
        · subst e; rw [pk_us, um_s]
        · rw [pk_un e, um_n e]; exact hE.2 i (by omega)
    · refine ⟨by omega, fun a' h1 => ?_, fun i hi => um_n (by omega)⟩
      rw [um_n]
      intro e; subst e; omega
    · intro R h1 h2 a' h3 h4 h5
      by_cases e : a' = a
      · subst e; rw [um_s]; exact h2
      · rw [um_n e] at h5 ⊢; exact h1 a' h3 h4 h5
  · refine br_f (fun q => z ((fl_m1 e7).mp q)) ⟨vp_in_nI (by omega) (by omega), ?_⟩
    rw [nI_clamp (by omega), hE.1 a hs g]
    by_cases q : E a = h + 1
    · exact br_t ((fl_eq e7 hh).mpr q) (k1 c E rl xen xre hW hE fl_XT0 g q fun R h1 _ => h1)
    · refine br_f (fun q' => q ((fl_eq e7 hh).mp q')) (k0 fun R h1 h2 _ h3 => ?_)
      have := h1 a _ _ h3 (h2 a hs g (by omega))
      omega
end B6
end
section
section B7
variable {r n : Nat} {pt M b : Nat → Nat} {xrc xbc xfc xrn xra xfi xfp xgn xac xlr : Int32} {xhm : Int64} {xrp xrA xrB xrC xby xhd xst xbg xco xen xre xld xim xic xih xif xop xbp xbq xsc xna xhe xlo xsk : Nat → Int32} {yru ypl ynu yps yfi yac yre : Int32} {yme : Int64} {yrp yrq yrl yby yle ypr ywa ybp ybq ybo ysc yfn yat yhi ylo yen : Nat → Int32}
theorem x_f84z {post : Int32 → SX → Prop} {x1 x2 x5 : Int32} {c : Nat} (hc : c < 256) (k : post 0 (xrc, xbc, xfc, xrn, xra, xfi, xfp, xgn, xac, xlr, xhm, xrp, xrA, xrB, xrC, xby, xhd, xst, xbg, xco, xen, xre, xld, xim, xic, xih, xif, xop, xbp, xbq, xsc, xna, xhe, xlo, xsk)) : wX_follow_84 post x1 x2 (nI c) x5 0 xrc xbc xfc xrn xra xfi xfp xgn xac xlr xhm xrp xrA xrB xrC xby xhd xst xbg xco xen xre xld xim xic xih xif xop xbp xbq xsc xna xhe xlo xsk := by
  refine br_c (fun _ => ⟨ba_nb0, k⟩) fun _ => br_c (fun _ => ⟨ba_nb0, k⟩) fun _ => ?_
  exact x_sizeOf hc (nm_e (br_t rfl k))
theorem x_f84 {post : Int32 → SX → Prop} {f a h c : Nat} {E rl : Nat → Nat} (hn : n ≤ 120) (hF : pl_Fmt b n) (hf : f < pl_nf b) (hv : ∀ i, b i < 256) (hW : fl_WI b f c E rl) (hE : fl_EC (pl_s b f) (pl_e b f) c E rl xen xre) (hI : pl_IS b f a) (hc : ¬ pl_bad b f a) (hh : h ≤ 6)
    (kA : (b a = 10 ∨ b a = 16) → post 1 (xrc, xbc, xfc, nI c, xra, xfi, xfp, xgn, xac, xlr, xhm, xrp, xrA, xrB, xrC, xby, xhd, xst, xbg, xco, xen, xre, xld, xim, xic, xih, xif, xop, xbp, xbq, xsc, xna, xhe, xlo, xsk))
    (kB : b a ≠ 10 → b a ≠ 16 → ∀ (c' : Nat) (E' rl' : Nat → Nat) (xen xre : Nat → Int32), fl_WI b f c' E' rl' → fl_EC (pl_s b f) (pl_e b f) c' E' rl' xen xre → fl_XT c c' E E' rl rl' → a + pl_sz (b a) < pl_e b f → E' (a + pl_sz (b a)) = h + 1 → (∀ R : Nat → Nat → Prop, fl_SR b f R E → R (a + pl_sz (b a)) h → fl_SR b f R E') → post 1 (xrc, xbc, xfc, nI c', xra, xfi, xfp, xgn, xac, xlr, xhm, xrp, xrA, xrB, xrC, xby, xhd, xst, xbg, xco, xen, xre, xld, xim, xic, xih, xif, xop, xbp, xbq, xsc, xna, xhe, xlo, xsk))
    (kC : b a ≠ 10 → b a ≠ 16 → (∀ R : Nat → Nat → Prop, (∀ i h h', R i h → R i h' → h = h') → fl_SR b f R E → a + pl_sz (b a) < pl_e b f → ¬ R (a + pl_sz (b a)) h) → post 0 (xrc, xbc, xfc, nI c, xra, xfi, xfp, xgn, xac, xlr, xhm, xrp, xrA, xrB, xrC, xby, xhd, xst, xbg, xco, xen, xre, xld, xim, xic, xih, xif, xop, xbp, xbq, xsc, xna, xhe, xlo, xsk)) :
    wX_follow_84 post (nI a) (nI (pl_e b f)) (nI (b a)) (nI h) 1 xrc xbc xfc (nI c) xra xfi xfp xgn xac xlr xhm xrp xrA xrB xrC xby xhd xst xbg xco xen xre xld xim xic xih xif xop xbp xbq xsc xna xhe xlo xsk := by
  have v := hv a
  have he := pl_ef hF hf
  have nx := pl_nx hc hI.1
  have sa := pl_ISge hI
  refine pk_eq (b a) 10 (fun e => ⟨ba_nb1, kA (Or.inl e)⟩) fun e1 => pk_eq (b a) 16 (fun e => ⟨ba_nb1, kA (Or.inr e)⟩) fun e2 => ?_
  refine x_sizeOf v (nm_r (nI_add _ _) (br_f ba_10 ?_))
  refine x_reach (b := b) hn hF hf hW hE (by omega) (by omega) (fun z => pl_ISn hI z) hh (fun c' E' rl' xen xre h1 h2 h3 h4 h5 h6 => br_f ba_10 (kB e1 e2 c' E' rl' xen xre h1 h2 h3 h4 h5 h6)) fun z => br_t rfl (kC e1 e2 z)
theorem x_follow {post : Int32 → SX → Prop} {f a c : Nat} {E rl : Nat → Nat} (hn : n ≤ 120) (hF : pl_Fmt b n) (hf : f < pl_nf b) (h0 : ∀ f, f < pl_nf b → xhd f = nI (pl_hd b f)) (hb : ∀ i, i < 120 → xby i = nI (b i)) (hv : ∀ i, b i < 256)
    (hC : ∀ i, pl_IS b f i → ¬ pl_bad b f i) (hJ : ∀ i, pl_IS b f i → pl_jok b f i) (hW : fl_WI b f c E rl) (hE : fl_EC (pl_s b f) (pl_e b f) c E rl xen xre) (hI : pl_IS b f a) (hEa : 1 ≤ E a)
    (k1 : ∀ (c' : Nat) (E' rl' : Nat → Nat) (xen xre : Nat → Int32), fl_WI b f c' E' rl' → fl_EC (pl_s b f) (pl_e b f) c' E' rl' xen xre → fl_XT c c' E E' rl rl' → fl_CL b f E' a → (∀ R : Nat → Nat → Prop, pl_Good b f R → fl_SR b f R E → fl_SR b f R E') → post 1 (xrc, xbc, xfc, nI c', xra, xfi, xfp, xgn, xac, xlr, xhm, xrp, xrA, xrB, xrC, xby, xhd, xst, xbg, xco, xen, xre, xld, xim, xic, xih, xif, xop, xbp, xbq, xsc, xna, xhe, xlo, xsk))
    (k0 : (∀ R : Nat → Nat → Prop, pl_Good b f R → ¬ fl_SR b f R E) → ∀ (xrn : Int32) (xen xre : Nat → Int32), post 0 (xrc, xbc, xfc, xrn, xra, xfi, xfp, xgn, xac, xlr, xhm, xrp, xrA, xrB, xrC, xby, xhd, xst, xbg, xco, xen, xre, xld, xim, xic, xih, xif, xop, xbp, xbq, xsc, xna, xhe, xlo, xsk)) :
    wpX_follow post (xrc, xbc, xfc, nI c, xra, xfi, xfp, xgn, xac, xlr, xhm, xrp, xrA, xrB, xrC, xby, xhd, xst, xbg, xco, xen, xre, xld, xim, xic, xih, xif, xop, xbp, xbq, xsc, xna, xhe, xlo, xsk) (nI a) (nI (pl_e b f)) := by
  have v := hv a
  have he := pl_ef hF hf
  have sa := pl_ISge hI
  have la := hI.1
  have bad := hC a hI
  have c16 : b a ≤ 16 := by unfold pl_bad at bad; omega
  have t2 := pl_tk2 hF bad
  have g2 := pl_gv2 (b a)
  have e7 := hW.2.2.2.1 a
  obtain ⟨h, eh⟩ : ∃ h, E a = h + 1 := ⟨E a - 1, by omega⟩
  have Ra : ∀ R : Nat → Nat → Prop, fl_SR b f R E → R a h := fun R hR => by
    have := hR a sa la hEa
    rw [eh] at this
    exact this
  have ex : xen a = nI h := by rw [hE.1 a sa la, eh, nI_pred]
  have V : vp_in (nI a) 120 := vp_in_nI (by omega) (by omega)
  unfold wpX_follow
  dsimp only
  rw [nI_clamp (by omega), hb a (by omega), ex]
  refine ⟨V, nm_e ?_⟩
  refine x_taken (b := b) hn hF hf h0 hb hv la bad ⟨V, ?_⟩
  refine x_given c16 ?_
  by_cases z1 : h < pl_tk b a
  · refine nm_e ⟨V, br_t (nI_lt z1 (by omega)) (k0 (fun R hG hR => ?_) _ _ _)⟩
    have := (hG.2.2 a h (Ra R hR)).1
    omega
  refine nm_r (show _ = nI (h - pl_tk b a + pl_gv (b a)) by rw [pk_sub (by omega), nI_add]) ⟨V, br_f (nI_nlt (by omega) (by omega)) ?_⟩
  by_cases z2 : h - pl_tk b a + pl_gv (b a) ≤ 6
  case neg =>
    refine br_f (nI_ge (a := 6) (by omega) (by omega)) (k0 (fun R hG hR => ?_) _ _ _)
    have := (hG.2.2 a h (Ra R hR)).2.1
    omega
  refine br_t (nI_le (b := 6) z2 (by decide)) ?_
  have hh1 : E a - 1 = h := by omega
  refine x_isJump v (fun j => br_f ba_10 ?_) fun j => br_t rfl ?_
  · obtain ⟨t, et, st, ist⟩ := hJ a hI j
    have hw : a + 1 < pl_e b f := pl_wide bad (pl_sz2.mpr (by omega))
    have tl := ist.1
    refine x_targetB (b := b) (by omega) hb hv fun T hT => ?_
    have eT := tg_n (hT.trans et) (by omega)
    subst eT
    have Rt : ∀ R : Nat → Nat → Prop, pl_Good b f R → fl_SR b f R E → R t (h - pl_tk b a + pl_gv (b a)) := fun R hG hR => by
      obtain ⟨t', q1, q2, q3, q4⟩ := (hG.2.2 a h (Ra R hR)).2.2.1 j
      have : t = t' := by omega
      subst this
      exact q4
    refine x_reach (b := b) hn hF hf hW hE st (by omega) (fun _ => ist) z2 (fun c1 E1 rl1 xen1 xre1 W1 C1 X1 _ E1t S1 => ?_) fun q => ?_
    · refine x_f84 (b := b) hn hF hf hv W1 C1 hI bad z2 (fun q => ?_) (fun q1 q2 c2 E2 rl2 xen2 xre2 W2 C2 X2 n2 E2n S2 => ?_) fun q1 q2 q3 => ?_
      · refine k1 c1 E1 rl1 xen1 xre1 W1 C1 X1 ?_ (fun R hG hR => S1 R hR (Rt R hG hR))
        unfold fl_CL
        rw [X1.2.1 a hEa, hh1]
        exact ⟨by omega, z2, fun _ => ⟨t, et, st, tl, E1t⟩, fun p1 p2 => by omega⟩
      · refine k1 c2 E2 rl2 xen2 xre2 W2 C2 (fl_XTr X1 X2) ?_ (fun R hG hR => S2 R (S1 R hR (Rt R hG hR)) ((hG.2.2 a h (Ra R hR)).2.2.2 q1 q2).2)
        unfold fl_CL
        rw [X2.2.1 a (by rw [X1.2.1 a hEa]; exact hEa), X1.2.1 a hEa, hh1]
        exact ⟨by omega, z2, fun _ => ⟨t, et, st, tl, by rw [X2.2.1 t (by omega)]; exact E1t⟩, fun _ _ => ⟨n2, E2n⟩⟩
      · refine k0 (fun R hG hR => ?_) _ _ _
        have G := (hG.2.2 a h (Ra R hR)).2.2.2 q1 q2
        exact q3 R hG.2.1 (S1 R hR (Rt R hG hR)) G.1 G.2
    · exact x_f84z v (k0 (fun R hG hR => q R hG.2.1 hR tl (Rt R hG hR)) _ _ _)
  · refine x_f84 (b := b) hn hF hf hv hW hE hI bad z2 (fun q => ?_) (fun q1 q2 c2 E2 rl2 xen2 xre2 W2 C2 X2 n2 E2n S2 => ?_) fun q1 q2 q3 => ?_
    · refine k1 c E rl xen xre hW hE fl_XT0 ?_ (fun R hG hR => hR)
      unfold fl_CL
      rw [hh1]
      exact ⟨by omega, z2, fun z => absurd z j, fun p1 p2 => by omega⟩
    · refine k1 c2 E2 rl2 xen2 xre2 W2 C2 X2 ?_ (fun R hG hR => S2 R hR ((hG.2.2 a h (Ra R hR)).2.2.2 q1 q2).2)
      unfold fl_CL
      rw [X2.2.1 a hEa, hh1]
      exact ⟨by omega, z2, fun z => absurd z j, fun _ _ => ⟨n2, E2n⟩⟩
    · refine k0 (fun R hG hR => ?_) _ _ _
      have G := (hG.2.2 a h (Ra R hR)).2.2.2 q1 q2
      exact q3 R hG.2.1 hR G.1 G.2
theorem x_flow {post : Int32 → SX → Prop} {f : Nat} (hn : n ≤ 120) (hF : pl_Fmt b n) (hf : f < pl_nf b) (h0 : ∀ f, f < pl_nf b → xhd f = nI (pl_hd b f)) (hb : ∀ i, i < 120 → xby i = nI (b i)) (hv : ∀ i, b i < 256)
    (hC : ∀ i, pl_IS b f i → ¬ pl_bad b f i) (hJ : ∀ i, pl_IS b f i → pl_jok b f i)
    (kok : pl_Flow b f → ∀ (xrn : Int32) (xen xre : Nat → Int32), post 1 (xrc, xbc, xfc, xrn, xra, xfi, xfp, xgn, xac, xlr, xhm, xrp, xrA, xrB, xrC, xby, xhd, xst, xbg, xco, xen, xre, xld, xim, xic, xih, xif, xop, xbp, xbq, xsc, xna, xhe, xlo, xsk)) (kbad : ¬ pl_Flow b f → ∀ (xrn : Int32) (xen xre : Nat → Int32), post 0 (xrc, xbc, xfc, xrn, xra, xfi, xfp, xgn, xac, xlr, xhm, xrp, xrA, xrB, xrC, xby, xhd, xst, xbg, xco, xen, xre, xld, xim, xic, xih, xif, xop, xbp, xbq, xsc, xna, xhe, xlo, xsk)) : wpX_flowHolds post (xrc, xbc, xfc, xrn, xra, xfi, xfp, xgn, xac, xlr, xhm, xrp, xrA, xrB, xrC, xby, xhd, xst, xbg, xco, xen, xre, xld, xim, xic, xih, xif, xop, xbp, xbq, xsc, xna, xhe, xlo, xsk) (nI f) := by
  have he := pl_ef hF hf
  have hh := pl_hf hF hf
  have hs : pl_s b f < pl_e b f := hh
  have h4 := hF.2.2.2.1
  have W : ∀ d dn c, ∀ (E rl : Nat → Nat) (xen xre : Nat → Int32), dn + d = 40 → fl_WI b f c E rl → fl_EC (pl_s b f) (pl_e b f) c E rl xen xre → E (pl_s b f) = 1 → (∀ i, i < dn → i < c → fl_CL b f E (rl i)) → (∀ R : Nat → Nat → Prop, pl_Good b f R → fl_SR b f R E) →
      wX_flowHolds_52 post (nI (pl_e b f)) (d + 1) 1 (nI dn) xrc xbc xfc (nI c) xra xfi xfp xgn xac xlr xhm xrp xrA xrB xrC xby xhd xst xbg xco xen xre xld xim xic xih xif xop xbp xbq xsc xna xhe xlo xsk := by
    intro d
    induction d with
    | zero =>
      intro dn c E rl xen xre hd hW hE hE0 hCL hR
      refine br_t (nI_le (a := 40) (by omega) (by omega)) ⟨ba_nb1, kok (fl_good hW hs hE0 fun i hi => hCL i (by have := hW.1; omega) hi) _ _ _⟩
    | succ d ih =>
      intro dn c E rl xen xre hd hW hE hE0 hCL hR
      have hc40 := hW.1
      refine br_f (nI_ge (b := 40) (by omega) (by decide)) (pk_le c dn (fun z => ⟨ba_nb1, kok (fl_good hW hs hE0 fun i hi => hCL i (by omega) hi) _ _ _⟩) fun z => br_f ba_10 ⟨vp_in_nI (by omega) (by omega), ?_⟩)
      rw [nI_clamp (by omega), hE.2 dn z]
      obtain ⟨q1, q2, q3⟩ := hW.2.1 dn z
      refine x_follow (b := b) hn hF hf h0 hb hv hC hJ hW hE q2 q3 (fun c' E' rl' xen' xre' W' C' X' L' S' => ?_) fun q xrn' xen' xre' => ?_
      · refine nm_r (nI_1 dn) (ih (dn + 1) c' E' rl' xen' xre' (by omega) W' C' (by rw [X'.2.1 _ (by omega)]; exact hE0) (fun i h1 h2 => ?_) fun R hG => S' R hG (hR R hG))
        by_cases e : i = dn
        · subst e; rw [X'.2.2 i z]; exact L'
        · rw [X'.2.2 i (by omega)]
          exact fl_CLx X' (hW.2.1 i (by omega)).2.2 (hCL i (by omega) (by omega))
      · have nf : ¬ pl_Flow b f := fun ⟨R, hG⟩ => q R hG (hR R hG)
        have K := kbad nf xrn' xen' xre'
        refine nm_r (nI_1 dn) ?_
        refine br_c (fun _ => ⟨ba_nb0, K⟩) fun _ => br_c (fun _ => ⟨ba_nb0, K⟩) fun _ => br_t rfl ⟨ba_nb0, K⟩
  unfold wpX_flowHolds
  dsimp only
  refine x_codeFirst (b := b) (by omega) (h0 f hf) ?_
  refine x_codeEnd (b := b) (by omega) (h0 f hf) (by omega) hb ?_
  have Z : ∀ d a, ∀ xen : Nat → Int32, a + d = pl_e b f → pl_s b f ≤ a → (∀ j, pl_s b f ≤ j → j < a → xen j = -1) → wX_flowHolds_15 post (nI (pl_s b f)) (nI (pl_e b f)) xrc xbc xfc xrn xra xfi xfp xgn xac xlr xhm (d + 1) (nI a) xrp xrA xrB xrC xby xhd xst xbg xco xen xre xld xim xic xih xif xop xbp xbq xsc xna xhe xlo xsk := by
    intro d
    induction d with
    | zero =>
      intro a xen ha h1 h2
      refine br_t (nI_le (by omega) (by omega)) ?_
      have c0 : ∀ s d, fl_cn (fun _ => 0) s d = 0 := by
        intro s d
        induction d with
        | zero => rfl
        | succ d ih => show fl_cn _ s d + _ = 0; rw [ih]; rfl
      refine x_reach (b := b) (f := f) (c := 0) (h := 0) (E := fun _ => 0) (rl := fun _ => 0) hn hF hf ⟨by omega, fun i hi => absurd hi (by omega), fun a _ _ h => absurd h (by show ¬ 1 ≤ 0; omega), fun _ => Nat.zero_le _, (c0 _ _).symm⟩ ⟨fun j g1 g2 => ?_, fun i hi => absurd hi (by omega)⟩ (Nat.le_refl _) (by omega) (fun _ => pl_IS0 (hF.2.2.2.2.1 f hf).2.2.1) (by omega) (fun c' E' rl' xen' xre' W' C' X' _ g5 g6 => ?_) fun q => ?_
      · rw [h2 j g1 (by omega)]; show (-1 : Int32) = nI 0 - 1; decide
      · exact ⟨41, W 40 0 c' E' rl' xen' xre' rfl W' C' g5 (fun i hi => absurd hi (by omega)) fun R hG => g6 R (fun a _ _ h => absurd h (by show ¬ 1 ≤ 0; omega)) hG.1⟩
      · exact (q (fun a h => a = pl_s b f ∧ h = 0) (fun i h h' p1 p2 => by omega) (fun a _ _ h => absurd h (by show ¬ 1 ≤ 0; omega)) hs ⟨rfl, rfl⟩).elim
    | succ d ih =>
      intro a xen ha h1 h2
      refine br_f (nI_ge (by omega) (by omega)) ⟨vp_in_nI (by omega) (by omega), nm_r (show _ = upd xen a (-1) by rw [nI_clamp (by omega)]) (nm_r (nI_1 a) (ih (a + 1) _ (by omega) (by omega) fun j g1 g2 => ?_))⟩
      by_cases e : j = a
      · subst e; exact pk_us
      · rw [pk_un e]; exact h2 j g1 (by omega)
  exact ⟨_, Z (pl_e b f - pl_s b f) (pl_s b f) xen (by omega) (Nat.le_refl _) fun j g1 g2 => absurd g1 (by omega)⟩
theorem x_flows {post : SX → Prop} (hn : n ≤ 120) (hF : pl_Fmt b n) (h0 : ∀ f, f < pl_nf b → xhd f = nI (pl_hd b f)) (hb : ∀ i, i < 120 → xby i = nI (b i)) (hv : ∀ i, b i < 256)
    (hC : ∀ f, f < pl_nf b → ∀ i, pl_IS b f i → ¬ pl_bad b f i) (hJ : ∀ f, f < pl_nf b → ∀ i, pl_IS b f i → pl_jok b f i)
    (kbad : ∀ f, f < pl_nf b → ¬ pl_Flow b f → (∀ g, g < f → pl_Flow b g) → ∀ (xrn : Int32) (xen xre : Nat → Int32), post (xrc, xbc, nI (pl_nf b), xrn, xra, nI 6, nI (pl_s b f), xgn, xac, xlr, xhm, xrp, xrA, xrB, xrC, xby, xhd, xst, xbg, xco, xen, xre, xld, xim, xic, xih, xif, xop, xbp, xbq, xsc, xna, xhe, xlo, xsk))
    (kok : (∀ f, f < pl_nf b → pl_Flow b f) → ∀ (xrn : Int32) (xen xre : Nat → Int32), post (xrc, xbc, nI (pl_nf b), xrn, xra, 0, xfp, xgn, xac, xlr, xhm, xrp, xrA, xrB, xrC, xby, xhd, xst, xbg, xco, xen, xre, xld, xim, xic, xih, xif, xop, xbp, xbq, xsc, xna, xhe, xlo, xsk)) :
    wpX_checkFlows post (xrc, xbc, nI (pl_nf b), xrn, xra, 0, xfp, xgn, xac, xlr, xhm, xrp, xrA, xrB, xrC, xby, xhd, xst, xbg, xco, xen, xre, xld, xim, xic, xih, xif, xop, xbp, xbq, xsc, xna, xhe, xlo, xsk) := by
  have h4 := hF.2.2.2.1
  have O : ∀ d f, ∀ (xrn : Int32) (xen xre : Nat → Int32), f + d = pl_nf b → (∀ g, g < f → pl_Flow b g) → wX_checkFlows_2 post (d + 1) (nI f) xrc xbc (nI (pl_nf b)) xrn xra 0 xfp xgn xac xlr xhm xrp xrA xrB xrC xby xhd xst xbg xco xen xre xld xim xic xih xif xop xbp xbq xsc xna xhe xlo xsk := by
    intro d
    induction d with
    | zero =>
      intro f xrn xen xre hf hg
      have : f = pl_nf b := by omega
      subst this
      exact br_t (nI_le (Nat.le_refl _) (by omega)) (kok hg _ _ _)
    | succ d ih =>
      intro f xrn xen xre hf hg
      refine br_f (nI_ge (by omega) (by omega)) (br_t rfl ?_)
      refine x_flow (b := b) hn hF (by omega) h0 hb hv (hC f (by omega)) (hJ f (by omega)) (fun q xrn' xen' xre' => br_f ba_10 ?_) fun q xrn' xen' xre' => br_t rfl ?_
      · refine nm_r (nI_1 f) (ih (f + 1) xrn' xen' xre' (by omega) fun g hg' => ?_)
        by_cases e : g = f
        · subst e; exact q
        · exact hg g (by omega)
      · refine x_codeFirst (b := b) (by omega) (h0 f (by omega)) ?_
        refine nm_r (nI_1 f) ?_
        have K := kbad f (by omega) q hg xrn' xen' xre'
        cases d with
        | zero => exact br_t (nI_le (by omega) (by omega)) K
        | succ d => exact br_f (nI_ge (by omega) (by omega)) (br_f (by decide) K)
  exact ⟨_, O (pl_nf b) 0 xrn xen xre (by omega) fun g hg => absurd hg (by omega)⟩
end B7
end
section
section B8
variable {r n : Nat} {pt M b : Nat → Nat} {yru ypl ynu yps yfi yac yre : Int32} {yme : Int64} {yrp yrq yrl yby yle ypr ywa ybp ybq ybo ysc yfn yat yhi ylo yen : Nat → Int32}
theorem y_takes {post : Int32 → Prop} {p f a : Nat} (hp : p ≤ 3) (hn : n ≤ 120) (hF : pl_Fmt (re_b M p) n) (hf : f < pl_nf (re_b M p)) (ha : a < pl_e (re_b M p) f) (hc : ¬ pl_bad (re_b M p) f a)
    (k : post (nI (pl_tk (re_b M p) a))) : wpY_takes post (yru, ypl, ynu, yps, yfi, yac, yre, yme, yrp, yrq, yrl, fun i => nI (M i), yle, ypr, ywa, ybp, ybq, ybo, ysc, yfn, yat, yhi, ylo, yen) (nI p) (nI (p * 120 + a)) := by
  have he := pl_ef hF hf
  have h4 := hF.2.2.2.1
  unfold wpY_takes
  dsimp only
  rw [y_rd hp (by omega)]
  refine ⟨vp_in_nI (by omega) (by omega), nm_e ?_⟩
  have h16 : re_b M p a ≤ 16 := by unfold pl_bad at hc; omega
  rcases c17 h16 with e | e | e | e | e | e | e | e | e | e | e | e | e | e | e | e | e
  · rw [show pl_tk (re_b M p) a = 0 by simp [pl_tk, e]] at k
    rw [e]
    exact br_f (by decide) (br_t (by decide) (br_f (by decide) (br_f (by decide) (br_f (by decide) (br_f (by decide) (br_f (by decide) (br_f (by decide) (br_f (by decide) (k)))))))))
  · rw [show pl_tk (re_b M p) a = 0 by simp [pl_tk, e]] at k
    rw [e]
    exact br_f (by decide) (br_t (by decide) (br_f (by decide) (br_f (by decide) (br_f (by decide) (br_f (by decide) (br_f (by decide) (br_f (by decide) (br_f (by decide) (k)))))))))
  · rw [show pl_tk (re_b M p) a = 1 by simp [pl_tk, e]] at k
    rw [e]
    exact br_f (by decide) (br_t (by decide) (br_t (by decide) k))
  · rw [show pl_tk (re_b M p) a = 2 by simp [pl_tk, e]] at k
    rw [e]
    exact br_f (by decide) (br_f (by decide) (br_f (by decide) k))
  · rw [show pl_tk (re_b M p) a = 2 by simp [pl_tk, e]] at k
    rw [e]
    exact br_f (by decide) (br_f (by decide) (br_f (by decide) k))
  · rw [show pl_tk (re_b M p) a = 2 by simp [pl_tk, e]] at k
    rw [e]
    exact br_f (by decide) (br_f (by decide) (br_f (by decide) k))
  · rw [show pl_tk (re_b M p) a = 2 by simp [pl_tk, e]] at k
    rw [e]
    exact br_f (by decide) (br_f (by decide) (br_f (by decide) k))
  · rw [show pl_tk (re_b M p) a = 2 by simp [pl_tk, e]] at k
    rw [e]
    exact br_f (by decide) (br_f (by decide) (br_f (by decide) k))
  · rw [show pl_tk (re_b M p) a = 1 by simp [pl_tk, e]] at k
    rw [e]
    exact br_f (by decide) (br_f (by decide) (br_t (by decide) (br_f (by decide) (br_t (by decide) k))))
  · rw [show pl_tk (re_b M p) a = 1 by simp [pl_tk, e]] at k
    rw [e]
    exact br_f (by decide) (br_f (by decide) (br_t (by decide) (br_f (by decide) (br_f (by decide) (br_t (by decide) k)))))
  · rw [show pl_tk (re_b M p) a = 0 by simp [pl_tk, e]] at k
    rw [e]
    exact br_f (by decide) (br_f (by decide) (br_t (by decide) (br_f (by decide) (br_f (by decide) (br_f (by decide) (br_f (by decide) (br_f (by decide) (br_f (by decide) (br_f (by decide) (k))))))))))
  · rw [show pl_tk (re_b M p) a = 1 by simp [pl_tk, e]] at k
    rw [e]
    exact br_f (by decide) (br_f (by decide) (br_t (by decide) (br_f (by decide) (br_f (by decide) (br_f (by decide) (br_t (by decide) k))))))
  · have hg := pl_call hc e
    have hw2 : a + 1 < pl_e (re_b M p) f := pl_wide hc (pl_sz2.mpr (by omega))
    have hgh := pl_hf hF hg
    have hge := pl_ef hF hg
    rw [show pl_tk (re_b M p) a = re_b M p (pl_hd (re_b M p) (re_b M p (a + 1))) by simp [pl_tk, e]] at k
    rw [e, show nI (p * 120 + a) + 1 = nI (p * 120 + (a + 1)) from nI_1 _, y_rd hp (by omega)]
    refine br_t (by decide) ⟨vp_in_nI (by omega) (by omega), y_head hp (by omega) hF.1 (fun i hi => ?_) ⟨vp_in_nI (by omega) (by omega), ?_⟩⟩
    · have := pl_hd_le (re_b M p) i (re_b M p (a + 1)) (by omega)
      omega
    · rw [y_rd hp (by omega)]
      exact k
  · rw [show pl_tk (re_b M p) a = 1 by simp [pl_tk, e]] at k
    rw [e]
    exact br_f (by decide) (br_f (by decide) (br_t (by decide) (br_f (by decide) (br_f (by decide) (br_f (by decide) (br_f (by decide) (br_t (by decide) k)))))))
  · rw [show pl_tk (re_b M p) a = 0 by simp [pl_tk, e]] at k
    rw [e]
    exact br_f (by decide) (br_f (by decide) (br_t (by decide) (br_f (by decide) (br_f (by decide) (br_f (by decide) (br_f (by decide) (br_f (by decide) (br_f (by decide) (br_f (by decide) (k))))))))))
  · rw [show pl_tk (re_b M p) a = 1 by simp [pl_tk, e]] at k
    rw [e]
    exact br_f (by decide) (br_f (by decide) (br_t (by decide) (br_f (by decide) (br_f (by decide) (br_f (by decide) (br_f (by decide) (br_f (by decide) (br_t (by decide) k))))))))
  · rw [show pl_tk (re_b M p) a = 1 by simp [pl_tk, e]] at k
    rw [e]
    exact br_f (by decide) (br_f (by decide) (br_t (by decide) (br_f (by decide) (br_f (by decide) (br_f (by decide) (br_f (by decide) (br_f (by decide) (br_f (by decide) (br_t (by decide) k)))))))))
theorem y_gives {post : Int32 → Prop} {c : Nat} (hc : c ≤ 16) (k : post (nI (pl_gv c))) : wpY_gives post (nI c) := by
  rcases c17 hc with rfl | rfl | rfl | rfl | rfl | rfl | rfl | rfl | rfl | rfl | rfl | rfl | rfl | rfl | rfl | rfl | rfl
  · exact br_f (by decide) (br_t (by decide) k)
  · exact br_f (by decide) (br_t (by decide) k)
  · exact br_f (by decide) (br_f (by decide) (br_t (by decide) (br_t (by decide) k)))
  · exact br_f (by decide) (br_f (by decide) (br_f (by decide) (br_t (by decide) k)))
  · exact br_f (by decide) (br_f (by decide) (br_f (by decide) (br_t (by decide) k)))
  · exact br_f (by decide) (br_f (by decide) (br_f (by decide) (br_t (by decide) k)))
  · exact br_f (by decide) (br_f (by decide) (br_f (by decide) (br_t (by decide) k)))
  · exact br_f (by decide) (br_f (by decide) (br_f (by decide) (br_t (by decide) k)))
  · exact br_t (by decide) k
  · exact br_f (by decide) (br_f (by decide) (br_f (by decide) (br_f (by decide) (br_t (by decide) k))))
  · exact br_f (by decide) (br_f (by decide) (br_f (by decide) (br_f (by decide) (br_t (by decide) k))))
  · exact br_f (by decide) (br_f (by decide) (br_f (by decide) (br_f (by decide) (br_t (by decide) k))))
  · exact br_f (by decide) (br_f (by decide) (br_f (by decide) (br_f (by decide) (br_f (by decide) (br_f (by decide) k)))))
  · exact br_f (by decide) (br_f (by decide) (br_f (by decide) (br_f (by decide) (br_f (by decide) (br_f (by decide) k)))))
  · exact br_f (by decide) (br_f (by decide) (br_f (by decide) (br_f (by decide) (br_f (by decide) (br_f (by decide) k)))))
  · exact br_f (by decide) (br_f (by decide) (br_f (by decide) (br_f (by decide) (br_f (by decide) (br_t (by decide) k)))))
  · exact br_f (by decide) (br_f (by decide) (br_f (by decide) (br_f (by decide) (br_f (by decide) (br_t (by decide) k)))))
end B8
section B9
variable {r n : Nat} {pt M b : Nat → Nat} {yru ypl ynu yps yfi yac yre : Int32} {yme : Int64} {yrp yrq yrl yby yle ypr ywa ybp ybq ybo ysc yfn yat yhi ylo yen : Nat → Int32}
/-! the reference's ways: k = (a - s) * 7 + h -/
def wa_v (w : Nat → Int32) : Nat → Nat := fun k => if w k = 0 then 0 else 1
def wa_c (w : Nat → Int32) : Nat := fl_cn (wa_v w) 0 280
def wa_J (b : Nat → Nat) (f : Nat) (w : Nat → Int32) : Prop := ∀ k, k < 280 → ¬ w k = 0 → pl_IS b f (pl_s b f + k / 7)
def wa_S (b : Nat → Nat) (f : Nat) (R : Nat → Nat → Prop) (w : Nat → Int32) : Prop := ∀ k, k < 280 → ¬ w k = 0 → R (pl_s b f + k / 7) (k % 7)
def wa_Q (b : Nat → Nat) (f : Nat) (w0 : Nat → Int32) (nw : Nat) (w : Nat → Int32) : Prop :=
  wa_J b f w ∧ (∀ k, ¬ w0 k = 0 → ¬ w k = 0) ∧ (nw = 0 → w = w0) ∧ (nw = 1 → wa_c w0 < wa_c w) ∧ nw ≤ 1 ∧ ∀ R, pl_Good b f R → wa_S b f R w0 → wa_S b f R w
def wa_h (b : Nat → Nat) (f k : Nat) : Nat := k % 7 - pl_tk b (pl_s b f + k / 7) + pl_gv (b (pl_s b f + k / 7))
/-- way k is in order -/
def wa_O (b : Nat → Nat) (f : Nat) (w : Nat → Int32) (k : Nat) : Prop :=
  (∀ o, o < 7 → o ≠ k % 7 → w (k - k % 7 + o) = 0) ∧ pl_tk b (pl_s b f + k / 7) ≤ k % 7 ∧ wa_h b f k ≤ 6 ∧
  (b (pl_s b f + k / 7) ≠ 10 → b (pl_s b f + k / 7) ≠ 16 → pl_s b f + k / 7 + pl_sz (b (pl_s b f + k / 7)) < pl_e b f ∧ ¬ w ((k / 7 + pl_sz (b (pl_s b f + k / 7))) * 7 + wa_h b f k) = 0) ∧
  ((b (pl_s b f + k / 7) = 10 ∨ b (pl_s b f + k / 7) = 11) → ∃ j : Nat, pl_tg b (pl_s b f + k / 7) = ((pl_s b f + j : Nat) : Int) ∧ pl_s b f + j < pl_e b f ∧ ¬ w (j * 7 + wa_h b f k) = 0)
theorem wa_cup {w : Nat → Int32} {k : Nat} (h : w k = 0) (hk : k < 280) : wa_c (upd w k 1) = wa_c w + 1 := by
  have e : wa_v (upd w k 1) = um_f (wa_v w) k 1 := by
    funext j
    unfold wa_v
    by_cases e : j = k
    · subst e; rw [pk_us, um_s, if_neg ba_10]
    · rw [pk_un e, um_n e]
  unfold wa_c
  rw [e, fl_cn_in (by unfold wa_v; rw [if_pos h]) (by omega) (by omega) _ (by omega)]
theorem wa_cle (w : Nat → Int32) : wa_c w ≤ 280 := fl_cn_le _ _ _
theorem wa_o00 : ((0 : Int32) ||| 0) = 0 := by decide
theorem y_way {post : Int32 → SY → Prop} {f k nw : Nat} {w0 : Nat → Int32} (hk : k < 280) (hQ : wa_Q b f w0 nw ywa) (hI : pl_IS b f (pl_s b f + k / 7)) (hR : ∀ R, pl_Good b f R → wa_S b f R w0 → R (pl_s b f + k / 7) (k % 7))
    (kk : ∀ (v : Int32) (nw' : Nat) (ywa' : Nat → Int32), nI nw ||| v = nI nw' → wa_Q b f w0 nw' ywa' → ¬ ywa' k = 0 → (nw' = 0 → nw = 0) → post v (yru, ypl, ynu, yps, yfi, yac, yre, yme, yrp, yrq, yrl, yby, yle, ypr, ywa', ybp, ybq, ybo, ysc, yfn, yat, yhi, ylo, yen)) : wpY_way post (yru, ypl, ynu, yps, yfi, yac, yre, yme, yrp, yrq, yrl, yby, yle, ypr, ywa, ybp, ybq, ybo, ysc, yfn, yat, yhi, ylo, yen) (nI k) := by
  unfold wpY_way
  dsimp only
  rw [nI_clamp (by omega), ba_vb1]
  obtain ⟨q1, q2, q3, q4, q5, q6⟩ := hQ
  refine ⟨vp_in_nI hk (by omega), br_c (fun z => ⟨vp_in_nI hk (by omega), nm_e ?_⟩) fun z => ?_⟩
  · refine kk 1 1 _ ?_ ⟨fun j hj hz => ?_, fun j hz => ?_, fun z => absurd z (by omega), fun _ => ?_, by omega, fun R hG hS j hj hz => ?_⟩ (by rw [pk_us]; exact ba_10) fun z => absurd z (by omega)
    · rcases (show nw = 0 ∨ nw = 1 by omega) with rfl | rfl <;> decide
    · by_cases e : j = k
      · subst e; exact hI
      · rw [pk_un e] at hz; exact q1 j hj hz
    · by_cases e : j = k
      · subst e; rw [pk_us]; exact ba_10
      · rw [pk_un e]; exact q2 j hz
    · rw [wa_cup z hk]
      rcases (show nw = 0 ∨ nw = 1 by omega) with h | h
      · rw [q3 h]; omega
      · have := q4 h; omega
    · by_cases e : j = k
      · subst e; exact hR R hG hS
      · rw [pk_un e] at hz; exact q6 R hG hS j hj hz
  · refine kk 0 nw _ ?_ ⟨q1, q2, q3, q4, q5, q6⟩ z fun z => z
    rcases (show nw = 0 ∨ nw = 1 by omega) with rfl | rfl <;> decide
/-- what a walk must give -/
def wa_K (post : Int32 → SY → Prop) (b : Nat → Nat) (f : Nat) (w0 : Nat → Int32) (g : (Nat → Int32) → SY) : Prop :=
  ((∀ R, pl_Good b f R → ¬ wa_S b f R w0) → ∀ w, post (-1) (g w)) ∧
  ((∀ k, k < 280 → ¬ w0 k = 0 → wa_O b f w0 k) → post 0 (g w0)) ∧
  (∀ w, wa_J b f w → (∀ k, ¬ w0 k = 0 → ¬ w k = 0) → wa_c w0 < wa_c w → (∀ R, pl_Good b f R → wa_S b f R w0 → wa_S b f R w) → post 1 (g w))
theorem y_walk {post : Int32 → SY → Prop} {f : Nat} {w0 : Nat → Int32} (hn : n ≤ 120) (hF : pl_Fmt (re_b M 3) n) (hf : f < pl_nf (re_b M 3)) (hv : ∀ i, M i < 256) (hC : ∀ i, pl_IS (re_b M 3) f i → ¬ pl_bad (re_b M 3) f i) (hJ : ∀ i, pl_IS (re_b M 3) f i → pl_jok (re_b M 3) f i)
    (hw : wa_J (re_b M 3) f w0) (K : wa_K post (re_b M 3) f w0 (fun ywa => (yru, ypl, ynu, yps, yfi, yac, yre, yme, yrp, yrq, yrl, fun i => nI (M i), yle, ypr, ywa, ybp, ybq, ybo, ysc, yfn, yat, yhi, ylo, yen))) : wpY_walk post (yru, ypl, ynu, yps, yfi, yac, yre, yme, yrp, yrq, yrl, fun i => nI (M i), yle, ypr, w0, ybp, ybq, ybo, ysc, yfn, yat, yhi, ylo, yen) (nI f) := by
  have he := pl_ef hF hf
  have hh := pl_hf hF hf
  have hs : pl_s (re_b M 3) f < pl_e (re_b M 3) f := hh
  have hsl := pl_sl hF hf
  have h4 := hF.2.2.2.1
  have hi : ∀ i, i < f + 1 → pl_hd (re_b M 3) i + 2 < 120 := by
    intro i h
    have := pl_hd_le (re_b M 3) i f (by omega)
    omega
  unfold wpY_walk
  dsimp only
  refine y_codeStart (p := 3) (by omega) (by omega) hF.1 (fun i h => hi i (by omega)) ?_
  refine y_codeEnd (p := 3) (by omega) (by omega) hF.1 hi ⟨281, ?_⟩
  have L : ∀ d k nw, ∀ ywa : Nat → Int32, k + d = 280 → wa_Q (re_b M 3) f w0 nw ywa → (nw = 0 → ∀ j, j < k → ¬ w0 j = 0 → wa_O (re_b M 3) f w0 j) →
      wY_walk_20 post (nI (3 * 120 + pl_s (re_b M 3) f)) (nI (3 * 120 + pl_e (re_b M 3) f)) (d + 1) (nI nw) (nI k) yru ypl ynu yps yfi yac yre yme yrp yrq yrl (fun i => nI (M i)) yle ypr ywa ybp ybq ybo ysc yfn yat yhi ylo yen := by
    intro d
    induction d with
    | zero =>
      intro k nw ywa hk hQ hO
      refine br_t (nI_le (a := 280) (by omega) (by omega)) ?_
      rcases (show nw = 0 ∨ nw = 1 by have := hQ.2.2.2.2.1; omega) with rfl | rfl
      · rw [hQ.2.2.1 rfl]
        exact K.2.1 fun j hj => hO rfl j (by omega)
      · exact K.2.2 ywa hQ.1 hQ.2.1 (hQ.2.2.2.1 rfl) hQ.2.2.2.2.2
    | succ d ih =>
      intro k nw ywa hk hQ hO
      refine br_f (nI_ge (b := 280) (by omega) (by decide)) ⟨vp_in_nI (by omega) (by omega), ?_⟩
      rw [nI_clamp (by omega)]
      refine br_c (fun z => nm_r (nI_1 k) (ih (k + 1) nw ywa (by omega) hQ fun h j hj hz => ?_)) fun z => ?_
      · by_cases e : j = k
        · subst e; rw [hQ.2.2.1 h] at z; exact absurd z hz
        · exact hO h j (by omega) hz
      have hk7 : k / 7 < 40 := by omega
      have hm7 : k % 7 < 7 := Nat.mod_lt _ (by omega)
      have hdm : k = k / 7 * 7 + k % 7 := by omega
      have is := hQ.1 k (by omega) z
      have la := is.1
      have bad := hC _ is
      have jok := hJ _ is
      have vb := y_hvb hv 3 (pl_s (re_b M 3) f + k / 7)
      have c16 : re_b M 3 (pl_s (re_b M 3) f + k / 7) ≤ 16 := by unfold pl_bad at bad; omega
      have t2 := pl_tk2 hF bad
      have g2 := pl_gv2 (re_b M 3 (pl_s (re_b M 3) f + k / 7))
      have nx := pl_nx bad la
      have szp := pl_sz_pos (re_b M 3 (pl_s (re_b M 3) f + k / 7))
      have wdd := fun q => pl_wide bad q
      have Ra : ∀ R, pl_Good (re_b M 3) f R → wa_S (re_b M 3) f R w0 → R (pl_s (re_b M 3) f + k / 7) (k % 7) := fun R hG hS => hQ.2.2.2.2.2 R hG hS k (by omega) z
      have B : (∀ R, pl_Good (re_b M 3) f R → wa_S (re_b M 3) f R w0 → False) → post (-1) (yru, ypl, ynu, yps, yfi, yac, yre, yme, yrp, yrq, yrl, fun i => nI (M i), yle, ypr, ywa, ybp, ybq, ybo, ysc, yfn, yat, yhi, ylo, yen) := fun q => K.1 (fun R hG hS => q R hG hS) ywa
      refine ⟨by decide, nm_r (e' := nI (3 * 120 + (pl_s (re_b M 3) f + k / 7))) ?_ ⟨by decide, nm_r (e' := nI (k % 7)) (pk_rem (d := 7) (by omega) (by omega) (by omega)) ⟨vp_in_nI (by omega) (by omega), nm_r (e' := nI (re_b M 3 (pl_s (re_b M 3) f + k / 7))) (y_rd (p := 3) (by omega) (by omega)) ?_⟩⟩⟩
      · rw [show nI k / 7 = nI (k / 7) from pk_div (d := 7) (by omega) (by omega) (by omega), nI_add]
        exact congrArg nI (by omega)
      refine y_takes (p := 3) (by omega) hn hF hf la bad ?_
      refine y_gives c16 ⟨8, ?_⟩
      have hr : wa_h (re_b M 3) f k = k % 7 - pl_tk (re_b M 3) (pl_s (re_b M 3) f + k / 7) + pl_gv (re_b M 3 (pl_s (re_b M 3) f + k / 7)) := rfl
      -- the end of the body
      have NX : ∀ (nw' : Nat) (ywa' : Nat → Int32), wa_Q (re_b M 3) f w0 nw' ywa' → (nw' = 0 → wa_O (re_b M 3) f w0 k) → (nw' = 0 → nw = 0) → wY_walk_20 post (nI (3 * 120 + pl_s (re_b M 3) f)) (nI (3 * 120 + pl_e (re_b M 3) f)) (d + 1) (nI nw') (nI (k + 1)) yru ypl ynu yps yfi yac yre yme yrp yrq yrl (fun i => nI (M i)) yle ypr ywa' ybp ybq ybo ysc yfn yat yhi ylo yen := by
        intro nw' ywa' hQ' hO' hn'
        refine ih (k + 1) nw' ywa' (by omega) hQ' fun h j hj hz => ?_
        by_cases e : j = k
        · subst e; exact hO' h
        · exact hO (hn' h) j (by omega) hz
      generalize ea : pl_s (re_b M 3) f + k / 7 = a at *
      have PT : pl_s (re_b M 3) f + k / 7 = a := ea
      have FJ : ∀ (nw1 : Nat) (ywa1 : Nat → Int32), wa_Q (re_b M 3) f w0 nw1 ywa1 → (nw1 = 0 → nw = 0) → (∀ o, o < 7 → o ≠ k % 7 → ywa (k - k % 7 + o) = 0) → pl_tk (re_b M 3) a ≤ k % 7 → wa_h (re_b M 3) f k ≤ 6 →
          (nw1 = 0 → re_b M 3 a ≠ 10 → re_b M 3 a ≠ 16 → a + pl_sz (re_b M 3 a) < pl_e (re_b M 3) f ∧ ¬ w0 ((k / 7 + pl_sz (re_b M 3 a)) * 7 + wa_h (re_b M 3) f k) = 0) →
          wY_walk_228 post (wY_walk_20 post (nI (3 * 120 + pl_s (re_b M 3) f)) (nI (3 * 120 + pl_e (re_b M 3) f)) (d + 1)) (nI (3 * 120 + pl_s (re_b M 3) f)) (nI (3 * 120 + pl_e (re_b M 3) f)) (nI nw1) (nI k) (nI (3 * 120 + a)) (nI (re_b M 3 a)) (nI (wa_h (re_b M 3) f k)) yru ypl ynu yps yfi yac yre yme yrp yrq yrl (fun i => nI (M i)) yle ypr ywa1 ybp ybq ybo ysc yfn yat yhi ylo yen := by
        intro nw1 ywa1 hQ1 hn1 hu ht h6 hnx
        have TG : (re_b M 3 a = 10 ∨ re_b M 3 a = 11) → wY_walk_242 post (wY_walk_20 post (nI (3 * 120 + pl_s (re_b M 3) f)) (nI (3 * 120 + pl_e (re_b M 3) f)) (d + 1)) (nI (3 * 120 + pl_s (re_b M 3) f)) (nI (3 * 120 + pl_e (re_b M 3) f)) (nI nw1) (nI k) (nI (3 * 120 + a)) (nI (wa_h (re_b M 3) f k)) yru ypl ynu yps yfi yac yre yme yrp yrq yrl (fun i => nI (M i)) yle ypr ywa1 ybp ybq ybo ysc yfn yat yhi ylo yen := by
          intro c
          obtain ⟨j', ej, sj, ij⟩ := jok c
          have lj := ij.1
          obtain ⟨j, rfl⟩ : ∃ j, j' = pl_s (re_b M 3) f + j := ⟨j' - pl_s (re_b M 3) f, by omega⟩
          have h1 := wdd (pl_sz2.mpr (by omega))
          refine y_target (p := 3) (by omega) (by omega) hv fun T hT => ?_
          have eT : T = nI (3 * 120 + (pl_s (re_b M 3) f + j)) := tg_n (by rw [hT, ej]; omega) (by omega)
          subst eT
          have eI : (nI (3 * 120 + (pl_s (re_b M 3) f + j)) - nI (3 * 120 + pl_s (re_b M 3) f)) * 7 + nI (wa_h (re_b M 3) f k) = nI (j * 7 + wa_h (re_b M 3) f k) := by
            rw [pk_sub (by omega), show nI (3 * 120 + (pl_s (re_b M 3) f + j) - (3 * 120 + pl_s (re_b M 3) f)) * 7 = nI ((3 * 120 + (pl_s (re_b M 3) f + j) - (3 * 120 + pl_s (re_b M 3) f)) * 7) from pk_mul _ 7, nI_add]
            exact congrArg nI (by omega)
          rw [eI]
          have d1 : (j * 7 + wa_h (re_b M 3) f k) / 7 = j := by omega
          have d2 : (j * 7 + wa_h (re_b M 3) f k) % 7 = wa_h (re_b M 3) f k := by omega
          refine y_way (b := re_b M 3) (f := f) (w0 := w0) (nw := nw1) (by omega) hQ1 (by rw [d1]; exact ij) (fun R hG hS => ?_) fun v nw2 ywa2 ev hQ2 hz2 hn2 => ?_
          · rw [d1, d2, hr]
            obtain ⟨j2, p1, p2, p3, p4⟩ := (hG.2.2 a (k % 7) (Ra R hG hS)).2.2.1 c
            have : j2 = pl_s (re_b M 3) f + j := by omega
            subst this
            exact p4
          · refine nm_r ev (nm_r (nI_1 k) (NX nw2 ywa2 hQ2 (fun h => ?_) fun h => hn1 (hn2 h)))
            have w1 : ywa = w0 := hQ.2.2.1 (hn1 (hn2 h))
            have w2 : ywa2 = w0 := hQ2.2.2.1 h
            unfold wa_O
            rw [PT]
            refine ⟨by rw [← w1]; exact hu, ht, h6, fun c1 c2 => hnx (hn2 h) c1 c2, fun _ => ⟨j, ej, lj, by rw [← w2]; exact hz2⟩⟩
        refine pk_eq (re_b M 3 a) 10 (fun c => TG (Or.inl c)) fun c1 => pk_eq (re_b M 3 a) 11 (fun c => TG (Or.inr c)) fun c2 => nm_r (nI_1 k) (NX nw1 ywa1 hQ1 (fun h => ?_) hn1)
        have w1 : ywa = w0 := hQ.2.2.1 (hn1 h)
        unfold wa_O
        rw [PT]
        exact ⟨by rw [← w1]; exact hu, ht, h6, fun c1 c2 => hnx h c1 c2, fun c => absurd c (by omega)⟩
      have BD : (∀ o, o < 7 → o ≠ k % 7 → ywa (k - k % 7 + o) = 0) → pl_tk (re_b M 3) a ≤ k % 7 → wa_h (re_b M 3) f k ≤ 6 → ∀ z0, z0 = nI (pl_sz (re_b M 3 a)) →
          wY_walk_170 post (wY_walk_20 post (nI (3 * 120 + pl_s (re_b M 3) f)) (nI (3 * 120 + pl_e (re_b M 3) f)) (d + 1)) (nI (3 * 120 + pl_s (re_b M 3) f)) (nI (3 * 120 + pl_e (re_b M 3) f)) (nI nw) (nI k) (nI (3 * 120 + a)) (nI (re_b M 3 a)) (nI (wa_h (re_b M 3) f k)) z0 (nI (3 * 120 + a)) yru ypl ynu yps yfi yac yre yme yrp yrq yrl (fun i => nI (M i)) yle ypr ywa ybp ybq ybo ysc yfn yat yhi ylo yen := by
        intro hu ht h6 z0 ez
        subst ez
        refine nm_r (e' := nI (3 * 120 + (a + pl_sz (re_b M 3 a)))) (by rw [nI_add]; exact congrArg nI (by omega)) ?_
        by_cases c10 : re_b M 3 a = 10
        · have e10 : nI (re_b M 3 a) = 10 := by rw [c10]; rfl
          exact br_t e10 (br_t e10 (FJ nw ywa hQ (fun h => h) hu ht h6 fun _ q _ => absurd c10 q))
        have n10 : ¬ nI (re_b M 3 a) = 10 := ba_ne (b := 10) (by omega) (by omega) c10
        by_cases c16' : re_b M 3 a = 16
        · have e16 : nI (re_b M 3 a) = 16 := by rw [c16']; rfl
          exact br_f n10 (br_t e16 (br_f n10 (br_t e16 (FJ nw ywa hQ (fun h => h) hu ht h6 fun _ _ q => absurd c16' q))))
        have n16 : ¬ nI (re_b M 3 a) = 16 := ba_ne (b := 16) (by omega) (by omega) c16'
        refine br_f n10 (br_f n16 (pk_lt (3 * 120 + (a + pl_sz (re_b M 3 a))) (3 * 120 + pl_e (re_b M 3) f) (fun ln => br_f n10 (br_f n16 ?_)) fun ln => B fun R hG hS => ?_))
        · have eI : (nI (3 * 120 + (a + pl_sz (re_b M 3 a))) - nI (3 * 120 + pl_s (re_b M 3) f)) * 7 + nI (wa_h (re_b M 3) f k) = nI ((k / 7 + pl_sz (re_b M 3 a)) * 7 + wa_h (re_b M 3) f k) := by
            rw [pk_sub (by omega), show nI (3 * 120 + (a + pl_sz (re_b M 3 a)) - (3 * 120 + pl_s (re_b M 3) f)) * 7 = nI ((3 * 120 + (a + pl_sz (re_b M 3 a)) - (3 * 120 + pl_s (re_b M 3) f)) * 7) from pk_mul _ 7, nI_add]
            exact congrArg nI (by omega)
          rw [eI]
          have d1 : ((k / 7 + pl_sz (re_b M 3 a)) * 7 + wa_h (re_b M 3) f k) / 7 = k / 7 + pl_sz (re_b M 3 a) := by omega
          have d2 : ((k / 7 + pl_sz (re_b M 3 a)) * 7 + wa_h (re_b M 3) f k) % 7 = wa_h (re_b M 3) f k := by omega
          have d3 : pl_s (re_b M 3) f + (k / 7 + pl_sz (re_b M 3 a)) = a + pl_sz (re_b M 3 a) := by omega
          refine y_way (b := re_b M 3) (f := f) (w0 := w0) (nw := nw) (by omega) hQ (by rw [d1, d3]; exact pl_ISn is (by omega)) (fun R hG hS => ?_) fun v nw2 ywa2 ev hQ2 hz2 hn2 => ?_
          · rw [d1, d2, d3, hr]
            exact ((hG.2.2 a (k % 7) (Ra R hG hS)).2.2.2 c10 c16').2
          · refine nm_r ev (FJ nw2 ywa2 hQ2 hn2 hu ht h6 fun h _ _ => ⟨by omega, ?_⟩)
            have w2 : ywa2 = w0 := hQ2.2.2.1 h
            rw [← w2]; exact hz2
        · have := ((hG.2.2 a (k % 7) (Ra R hG hS)).2.2.2 c10 c16').1
          omega
      have L85 : ∀ d' x, x + d' = 7 → (∀ o, o < x → o ≠ k % 7 → ywa (k - k % 7 + o) = 0) →
          wY_walk_85 post (wY_walk_20 post (nI (3 * 120 + pl_s (re_b M 3) f)) (nI (3 * 120 + pl_e (re_b M 3) f)) (d + 1)) (nI (3 * 120 + pl_s (re_b M 3) f)) (nI (3 * 120 + pl_e (re_b M 3) f)) (nI nw) (nI k) (nI (3 * 120 + a)) (nI (k % 7)) (nI (re_b M 3 a)) (nI (pl_tk (re_b M 3) a)) (nI (pl_gv (re_b M 3 a))) yru ypl ynu yps yfi yac yre yme yrp yrq yrl (fun i => nI (M i)) yle ypr ywa ybp ybq ybo ysc yfn yat yhi ylo yen (d' + 1) (nI x) := by
        intro d'
        induction d' with
        | zero =>
          intro x hx hu
          have : x = 7 := by omega
          subst this
          refine br_t (nI_le (a := 7) (b := 7) (by omega) (by omega)) ?_
          by_cases z1 : k % 7 < pl_tk (re_b M 3) a
          · refine br_t (nI_lt z1 (by omega)) (B fun R hG hS => ?_)
            have := (hG.2.2 a (k % 7) (Ra R hG hS)).1
            omega
          have ex : nI (k % 7) - nI (pl_tk (re_b M 3) a) + nI (pl_gv (re_b M 3 a)) = nI (wa_h (re_b M 3) f k) := by rw [pk_sub (by omega), nI_add, hr]
          refine br_f (nI_nlt (by omega) (by omega)) ?_
          rw [ex]
          refine pk_le (wa_h (re_b M 3) f k) 6 (fun z2 => nm_e ?_) (fun z2 => B fun R hG hS => ?_) rfl rfl (by omega)
          · exact y_wide vb (fun w => br_f ba_10 (BD hu (by omega) z2 2 (by rw [w]; rfl))) fun w => br_t rfl (BD hu (by omega) z2 1 (by rw [w]; rfl))
          · have := (hG.2.2 a (k % 7) (Ra R hG hS)).2.1
            omega
        | succ d' ih' =>
          intro x hx hu
          refine br_f (nI_ge (b := 7) (by omega) (by decide)) ?_
          have eI : nI k - nI (k % 7) + nI x = nI (k - k % 7 + x) := by rw [pk_sub (by omega), nI_add]
          rw [eI, nI_clamp (by omega)]
          refine pk_eq x (k % 7) (fun e => nm_r (nI_1 x) (ih' (x + 1) (by omega) fun o h1 h2 => ?_)) fun e => ⟨vp_in_nI (by omega) (by omega), br_c (fun z' => nm_r (nI_1 x) (ih' (x + 1) (by omega) fun o h1 h2 => ?_)) fun z' => B fun R hG hS => ?_⟩
          · exact hu o (by omega) h2
          · by_cases eo : o = x
            · subst eo; exact z'
            · exact hu o (by omega) h2
          · have h1 := hQ.2.2.2.2.2 R hG hS (k - k % 7 + x) (by omega) z'
            rw [show (k - k % 7 + x) / 7 = k / 7 by omega, show (k - k % 7 + x) % 7 = x by omega, PT] at h1
            have := hG.2.1 a _ _ h1 (Ra R hG hS)
            omega
      exact L85 7 0 rfl fun o h => absurd h (by omega)
  exact L 280 0 0 w0 rfl ⟨hw, fun _ h => h, fun _ => rfl, fun h => absurd h (by omega), by omega, fun R _ h => h⟩ fun _ j hj => absurd hj (by omega)
end B9
end
section
section C1
variable {r n : Nat} {pt M b : Nat → Nat} {yru ypl ynu yps yfi yac yre : Int32} {yme : Int64} {yrp yrq yrl yby yle ypr ywa ybp ybq ybo ysc yfn yat yhi ylo yen : Nat → Int32}
theorem wa_flow {b : Nat → Nat} {f : Nat} {w : Nat → Int32} (hs : pl_s b f < pl_e b f) (hl : pl_e b f ≤ pl_s b f + 40) (h0 : ¬ w 0 = 0) (hO : ∀ k, k < 280 → ¬ w k = 0 → wa_O b f w k) : pl_Flow b f := by
  refine ⟨fun a h => pl_s b f ≤ a ∧ a < pl_e b f ∧ h ≤ 6 ∧ ¬ w ((a - pl_s b f) * 7 + h) = 0, ⟨Nat.le_refl _, hs, by omega, by rw [Nat.sub_self]; exact h0⟩, fun a h h' g g' => ?_, fun a h g => ?_⟩
  · have q := (hO ((a - pl_s b f) * 7 + h) (by omega) g.2.2.2).1
    by_cases e : h = h'
    · exact e
    · have q2 := q h' (by omega) (by omega)
      rw [show (a - pl_s b f) * 7 + h - ((a - pl_s b f) * 7 + h) % 7 + h' = (a - pl_s b f) * 7 + h' by omega] at q2
      exact absurd q2 g'.2.2.2
  · obtain ⟨g1, g2, g3, g4⟩ := g
    have q := hO ((a - pl_s b f) * 7 + h) (by omega) g4
    have d1 : ((a - pl_s b f) * 7 + h) / 7 = a - pl_s b f := by omega
    have d2 : ((a - pl_s b f) * 7 + h) % 7 = h := by omega
    have d3 : pl_s b f + (a - pl_s b f) = a := by omega
    unfold wa_O wa_h at q
    rw [d1, d2, d3] at q
    obtain ⟨-, q2, q3, q4, q5⟩ := q
    refine ⟨q2, q3, fun c => ?_, fun c1 c2 => ?_⟩
    · obtain ⟨j, e1, e2, e3⟩ := q5 c
      exact ⟨pl_s b f + j, e1, by omega, e2, by omega, e2, q3, by rw [show pl_s b f + j - pl_s b f = j by omega]; exact e3⟩
    · obtain ⟨e1, e2⟩ := q4 c1 c2
      exact ⟨e1, by omega, e1, q3, by rw [show a + pl_sz (b a) - pl_s b f = a - pl_s b f + pl_sz (b a) by omega]; exact e2⟩
theorem y_flow {post : Int32 → SY → Prop} {f : Nat} (hn : n ≤ 120) (hF : pl_Fmt (re_b M 3) n) (hf : f < pl_nf (re_b M 3)) (hv : ∀ i, M i < 256) (hC : ∀ i, pl_IS (re_b M 3) f i → ¬ pl_bad (re_b M 3) f i) (hJ : ∀ i, pl_IS (re_b M 3) f i → pl_jok (re_b M 3) f i)
    (kok : pl_Flow (re_b M 3) f → ∀ ywa : Nat → Int32, post 1 (yru, ypl, ynu, yps, yfi, yac, yre, yme, yrp, yrq, yrl, fun i => nI (M i), yle, ypr, ywa, ybp, ybq, ybo, ysc, yfn, yat, yhi, ylo, yen)) (kbad : ¬ pl_Flow (re_b M 3) f → ∀ ywa : Nat → Int32, post 0 (yru, nI (pl_s (re_b M 3) f), ynu, yps, nI 6, yac, yre, yme, yrp, yrq, yrl, fun i => nI (M i), yle, ypr, ywa, ybp, ybq, ybo, ysc, yfn, yat, yhi, ylo, yen)) :
    wpY_flows post (yru, ypl, ynu, yps, yfi, yac, yre, yme, yrp, yrq, yrl, fun i => nI (M i), yle, ypr, ywa, ybp, ybq, ybo, ysc, yfn, yat, yhi, ylo, yen) (nI f) := by
  have he := pl_ef hF hf
  have hh := pl_hf hF hf
  have hs : pl_s (re_b M 3) f < pl_e (re_b M 3) f := hh
  have hsl := pl_sl hF hf
  have h4 := hF.2.2.2.1
  have hi : ∀ i, i < f → pl_hd (re_b M 3) i + 2 < 120 := by
    intro i h
    have := pl_hd_le (re_b M 3) i f (by omega)
    omega
  have L : ∀ d x, ∀ ywa : Nat → Int32, x + d = 300 → wa_J (re_b M 3) f ywa → ¬ ywa 0 = 0 → (∀ R, pl_Good (re_b M 3) f R → wa_S (re_b M 3) f R ywa) → x ≤ wa_c ywa → wY_flows_34 post (nI f) (d + 1) 1 (nI x) yru ypl ynu yps yfi yac yre yme yrp yrq yrl (fun i => nI (M i)) yle ypr ywa ybp ybq ybo ysc yfn yat yhi ylo yen := by
    intro d
    induction d with
    | zero =>
      intro x ywa hx hJ h0 hS hc
      have := wa_cle ywa
      omega
    | succ d ih =>
      intro x ywa hx hJw h0 hS hc
      have hcl := wa_cle ywa
      refine br_f (nI_ge (b := 300) (by omega) (by decide)) (br_f (by decide) ?_)
      refine y_walk hn hF hf hv hC hJ hJw ⟨fun q w => ?_, fun q => ?_, fun w q1 q2 q3 q4 => ?_⟩
      · have K : wY_flows_57 post (nI f) (-1) yru ypl ynu yps yfi yac yre yme yrp yrq yrl (fun i => nI (M i)) yle ypr w ybp ybq ybo ysc yfn yat yhi ylo yen := by
          refine y_codeStart (p := 3) (by omega) (by omega) hF.1 hi (br_f (by decide) (br_t rfl ?_))
          rw [show nI (3 * 120 + pl_s (re_b M 3) f) - 360 = nI (pl_s (re_b M 3) f) from y_sub]
          exact kbad (fun ⟨R, hG⟩ => q R hG (hS R hG)) w
        refine nm_r (nI_1 x) (br_c (fun _ => K) fun _ => br_t (by decide) K)
      · have K : wY_flows_57 post (nI f) 0 yru ypl ynu yps yfi yac yre yme yrp yrq yrl (fun i => nI (M i)) yle ypr ywa ybp ybq ybo ysc yfn yat yhi ylo yen :=
          y_codeStart (p := 3) (by omega) (by omega) hF.1 hi (br_t (by decide) (kok (wa_flow hs hsl h0 q) ywa))
        refine nm_r (nI_1 x) (br_c (fun _ => K) fun _ => br_t (by decide) K)
      · exact nm_r (nI_1 x) (ih (x + 1) w (by omega) q1 (q2 0 h0) (fun R hG => q4 R hG (hS R hG)) (by omega))
  have Z : ∀ d x, ∀ ywa : Nat → Int32, x + d = 280 → (∀ k, k < x → (¬ ywa k = 0 ↔ k = 0)) → wY_flows_2 post (nI f) yru ypl ynu yps yfi yac yre yme (d + 1) (nI x) yrp yrq yrl (fun i => nI (M i)) yle ypr ywa ybp ybq ybo ysc yfn yat yhi ylo yen := by
    intro d
    induction d with
    | zero =>
      intro x ywa hx hz
      refine br_t (nI_le (a := 280) (by omega) (by omega)) ⟨301, L 300 0 ywa rfl (fun k hk hk0 => ?_) ((hz 0 (by omega)).mpr rfl) (fun R hG k hk hk0 => ?_) (by omega)⟩
      · rw [(hz k (by omega)).mp hk0]
        exact pl_IS0 (hF.2.2.2.2.1 f hf).2.2.1
      · rw [(hz k (by omega)).mp hk0]
        exact hG.1
    | succ d ih =>
      intro x ywa hx hz
      refine br_f (nI_ge (b := 280) (by omega) (by decide)) (pk_eq x 0 (fun e => ⟨vp_in_nI (by omega) (by omega), nm_r (show _ = upd ywa x 1 by rw [nI_clamp (by omega), ba_vb1]) (nm_r (nI_1 x) (ih (x + 1) _ (by omega) fun k hk => ?_))⟩) fun e => ⟨vp_in_nI (by omega) (by omega), nm_r (show _ = upd ywa x 0 by rw [nI_clamp (by omega), ba_vb0]) (nm_r (nI_1 x) (ih (x + 1) _ (by omega) fun k hk => ?_))⟩)
      · by_cases ek : k = x
        · subst ek; rw [pk_us]; exact ⟨fun _ => e, fun _ => ba_10⟩
        · omega
      · by_cases ek : k = x
        · subst ek; rw [pk_us]; exact ⟨fun q => absurd rfl q, fun q => absurd q e⟩
        · rw [pk_un ek]; exact hz k (by omega)
  exact ⟨_, Z 280 0 ywa rfl fun k hk => absurd hk (by omega)⟩
end C1
section C2
variable {r n : Nat} {pt M b : Nat → Nat} {xrc xbc xfc xrn xra xfi xfp xgn xac xlr : Int32} {xhm : Int64} {xrp xrA xrB xrC xby xhd xst xbg xco xen xre xld xim xic xih xif xop xbp xbq xsc xna xhe xlo xsk : Nat → Int32} {yru ypl ynu yps yfi yac yre : Int32} {yme : Int64} {yrp yrq yrl yby yle ypr ywa ybp ybq ybo ysc yfn yat yhi ylo yen : Nat → Int32}
/-- what the policy says of the i-th path -/
noncomputable def de_A (pt : Nat → Nat) (q A B C : Nat → Int32) (r : Nat) (b : Nat → Nat) (i : Nat) : Int32 := po_A pt q A B C r (nI (b (2 + 3 * i))) (nI (b (2 + 3 * i + 1))) (nI (b (2 + 3 * i + 2)))
def de_F (pt : Nat → Nat) (q A B C : Nat → Int32) (r : Nat) (b : Nat → Nat) (i : Nat) : Prop := i < b 1 ∧ de_A pt q A B C r b i = 0 ∧ ∀ j, j < i → ¬ de_A pt q A B C r b j = 0
theorem de_P {x : Nat} (h : x ≤ 7) : ru_P (nI x) := ⟨nI_pos (by omega), nI_nlt (a := 7) (by omega) (by omega)⟩
theorem x_denB {post : Int32 → Prop} (hr : r ≤ 12) (hR : ∀ i, i < r → pt i ≤ 3 ∧ (xrp i) >>> ((1 : Int32) &&& 31) = nI (pt i)) (h4 : b 1 ≤ 4) (hb : ∀ i, i < 120 → xby i = nI (b i))
    (k1 : ∀ i, de_F pt xrp xrA xrB xrC r b i → post (nI (2 + 3 * i))) (k0 : (∀ i, i < b 1 → ¬ de_A pt xrp xrA xrB xrC r b i = 0) → post (-1)) : wpX_firstDenied__bytes post (nI r, xbc, xfc, xrn, xra, xfi, xfp, xgn, xac, xlr, xhm, xrp, xrA, xrB, xrC, xby, xhd, xst, xbg, xco, xen, xre, xld, xim, xic, xih, xif, xop, xbp, xbq, xsc, xna, xhe, xlo, xsk) 0 := by
  unfold wpX_firstDenied__bytes
  dsimp only
  rw [show (0 : Int32) + 1 = nI 1 from by decide, nI_clamp (by omega), hb 1 (by omega)]
  refine ⟨vp_in_nI (by omega) (by omega), nm_e ⟨b 1 + 1, ?_⟩⟩
  have L : ∀ d i, i + d = b 1 → (∀ j, j < i → ¬ de_A pt xrp xrA xrB xrC r b j = 0) → wX_firstDenied__bytes_9 post 0 (nI (b 1)) (nI r) xbc xfc xrn xra xfi xfp xgn xac xlr xhm xrp xrA xrB xrC xby xhd xst xbg xco xen xre xld xim xic xih xif xop xbp xbq xsc xna xhe xlo xsk (d + 1) (nI i) := by
    intro d
    induction d with
    | zero =>
      intro i hi hj
      exact br_t (nI_le (by omega) (by omega)) (k0 fun j h => hj j (by omega))
    | succ d ih =>
      intro i hi hj
      refine br_f (nI_ge (by omega) (by omega)) (nm_r (e' := nI (2 + 3 * i)) ?_ ?_)
      · rw [show 3 * nI i = nI (3 * i) from pk_mul 3 i, show 2 + nI (3 * i) = nI (2 + 3 * i) from nI_add 2 _]
      rw [show 0 + nI (2 + 3 * i) = nI (2 + 3 * i) from Int32.zero_add _, show nI (2 + 3 * i) + 1 = nI (2 + 3 * i + 1) from nI_1 _, show nI (2 + 3 * i) + 2 = nI (2 + 3 * i + 2) from nI_add _ 2, nI_clamp (by omega), nI_clamp (by omega), nI_clamp (by omega), hb _ (by omega), hb _ (by omega), hb _ (by omega)]
      refine ⟨vp_in_nI (by omega) (by omega), vp_in_nI (by omega) (by omega), vp_in_nI (by omega) (by omega), x_permits hr hR (br_c (fun z => k1 i ⟨by omega, z, hj⟩) fun z => nm_r (nI_1 i) (ih (i + 1) (by omega) fun j h => ?_))⟩
      by_cases e : j = i
      · subst e; exact z
      · exact hj j (by omega)
  exact L (b 1) 0 (by omega) fun j h => absurd h (by omega)
theorem x_denI {post : Int32 → Prop} {p : Nat} (hp : p < 3) (hr : r ≤ 12) (hR : ∀ i, i < r → pt i ≤ 3 ∧ (xrp i) >>> ((1 : Int32) &&& 31) = nI (pt i)) (h4 : b 1 ≤ 4) (hb : ∀ i, i < 120 → xim (p * 120 + i) = nI (b i))
    (k1 : ∀ i, de_F pt xrp xrA xrB xrC r b i → post (nI (2 + 3 * i))) (k0 : (∀ i, i < b 1 → ¬ de_A pt xrp xrA xrB xrC r b i = 0) → post (-1)) : wpX_firstDenied__image post (nI r, xbc, xfc, xrn, xra, xfi, xfp, xgn, xac, xlr, xhm, xrp, xrA, xrB, xrC, xby, xhd, xst, xbg, xco, xen, xre, xld, xim, xic, xih, xif, xop, xbp, xbq, xsc, xna, xhe, xlo, xsk) (nI (p * 120)) := by
  unfold wpX_firstDenied__image
  dsimp only
  rw [nI_1, nI_clamp (by omega), hb 1 (by omega)]
  refine ⟨vp_in_nI (by omega) (by omega), nm_e ⟨b 1 + 1, ?_⟩⟩
  have L : ∀ d i, i + d = b 1 → (∀ j, j < i → ¬ de_A pt xrp xrA xrB xrC r b j = 0) → wX_firstDenied__image_9 post (nI (p * 120)) (nI (b 1)) (nI r) xbc xfc xrn xra xfi xfp xgn xac xlr xhm xrp xrA xrB xrC xby xhd xst xbg xco xen xre xld xim xic xih xif xop xbp xbq xsc xna xhe xlo xsk (d + 1) (nI i) := by
    intro d
    induction d with
    | zero =>
      intro i hi hj
      exact br_t (nI_le (by omega) (by omega)) (k0 fun j h => hj j (by omega))
    | succ d ih =>
      intro i hi hj
      refine br_f (nI_ge (by omega) (by omega)) (nm_r (e' := nI (2 + 3 * i)) ?_ ?_)
      · rw [show 3 * nI i = nI (3 * i) from pk_mul 3 i, show 2 + nI (3 * i) = nI (2 + 3 * i) from nI_add 2 _]
      rw [nI_add, show nI (p * 120 + (2 + 3 * i)) + 1 = nI (p * 120 + (2 + 3 * i + 1)) from nI_1 _, show nI (p * 120 + (2 + 3 * i)) + 2 = nI (p * 120 + (2 + 3 * i + 2)) from nI_add _ 2, nI_clamp (by omega), nI_clamp (by omega), nI_clamp (by omega), hb _ (by omega), hb _ (by omega), hb _ (by omega)]
      refine ⟨vp_in_nI (by omega) (by omega), vp_in_nI (by omega) (by omega), vp_in_nI (by omega) (by omega), x_permits hr hR (br_c (fun z => k1 i ⟨by omega, z, hj⟩) fun z => nm_r (nI_1 i) (ih (i + 1) (by omega) fun j h => ?_))⟩
      by_cases e : j = i
      · subst e; exact z
      · exact hj j (by omega)
  exact L (b 1) 0 (by omega) fun j h => absurd h (by omega)
theorem y_denied {post : Int32 → Prop} {p : Nat} (hp : p ≤ 3) (hR : re_RU r pt xrp xrA xrB xrC yrp yrq yrl) (h4 : re_b M p 1 ≤ 4) (h7 : ∀ i, i < 3 * re_b M p 1 → re_b M p (2 + i) ≤ 7)
    (k1 : ∀ i, de_F pt xrp xrA xrB xrC r (re_b M p) i → post (nI i)) (k0 : (∀ i, i < re_b M p 1 → ¬ de_A pt xrp xrA xrB xrC r (re_b M p) i = 0) → post (-1)) : wpY_denied post (nI r, ypl, ynu, yps, yfi, yac, yre, yme, yrp, yrq, yrl, fun i => nI (M i), yle, ypr, ywa, ybp, ybq, ybo, ysc, yfn, yat, yhi, ylo, yen) (nI p) := by
  unfold wpY_denied
  dsimp only
  refine y_imports hp (nm_r (e' := nI (p * 120 + 2)) ?_ ⟨re_b M p 1 + 1, ?_⟩)
  · rw [show nI p * 120 = nI (p * 120) from pk_mul p 120, show nI (p * 120) + 2 = nI (p * 120 + 2) from nI_add _ 2]
  have L : ∀ d i, i + d = re_b M p 1 → (∀ j, j < i → ¬ de_A pt xrp xrA xrB xrC r (re_b M p) j = 0) → wY_denied_16 post (nI (re_b M p 1)) (nI (p * 120 + 2)) (nI r) ypl ynu yps yfi yac yre yme yrp yrq yrl (fun i => nI (M i)) yle ypr ywa ybp ybq ybo ysc yfn yat yhi ylo yen (d + 1) (nI i) := by
    intro d
    induction d with
    | zero =>
      intro i hi hj
      exact br_t (nI_le (by omega) (by omega)) (k0 fun j h => hj j (by omega))
    | succ d ih =>
      intro i hi hj
      refine br_f (nI_ge (by omega) (by omega)) ?_
      have e0 : nI (p * 120 + 2) + nI i * 3 = nI (p * 120 + (2 + 3 * i)) := by
        rw [show nI i * 3 = nI (i * 3) from pk_mul i 3, nI_add]
        exact congrArg nI (by omega)
      have h8 := h7 (3 * i) (by omega)
      have h9 := h7 (3 * i + 1) (by omega)
      have h10 := h7 (3 * i + 2) (by omega)
      rw [e0, show nI (p * 120 + (2 + 3 * i)) + 1 = nI (p * 120 + (2 + 3 * i + 1)) from nI_1 _, show nI (p * 120 + (2 + 3 * i)) + 2 = nI (p * 120 + (2 + 3 * i + 2)) from nI_add _ 2]
      refine ⟨vp_in_nI (by omega) (by omega), vp_in_nI (by omega) (by omega), vp_in_nI (by omega) (by omega), ?_⟩
      rw [y_by hp (show 2 + 3 * i < 120 by omega), y_by hp (show 2 + 3 * i + 1 < 120 by omega), y_by hp (show 2 + 3 * i + 2 < 120 by omega)]
      refine y_allows hR (de_P h8) (de_P h9) (de_P h10) (br_c (fun z => k1 i ⟨by omega, z, hj⟩) fun z => nm_r (nI_1 i) (ih (i + 1) (by omega) fun j h => ?_))
      by_cases e : j = i
      · subst e; exact z
      · exact hj j (by omega)
  exact L (re_b M p 1) 0 (by omega) fun j h => absurd h (by omega)
end C2
end
section
section C3
variable {r n : Nat} {pt M b : Nat → Nat} {xrc xbc xfc xrn xra xfi xfp xgn xac xlr : Int32} {xhm : Int64} {xrp xrA xrB xrC xby xhd xst xbg xco xen xre xld xim xic xih xif xop xbp xbq xsc xna xhe xlo xsk : Nat → Int32} {yru ypl ynu yps yfi yac yre : Int32} {yme : Int64} {yrp yrq yrl yby yle ypr ywa ybp ybq ybo ysc yfn yat yhi ylo yen : Nat → Int32}
/-! the verdict on a plugin's bytes: one (finding, place) -/
def vd_B (b : Nat → Nat) : Prop := ∀ f, f < pl_nf b → ∀ i, pl_IS b f i → ¬ pl_bad b f i
def vd_J (b : Nat → Nat) : Prop := ∀ f, f < pl_nf b → ∀ i, pl_IS b f i → pl_jok b f i
def vd_F (b : Nat → Nat) : Prop := ∀ f, f < pl_nf b → pl_Flow b f
def vd_W (b : Nat → Nat) (pl : Nat) : Prop := ∃ f, f < pl_nf b ∧ ¬ pl_Flow b f ∧ (∀ g, g < f → pl_Flow b g) ∧ pl = pl_s b f
def vd_R (b : Nat → Nat) (n : Nat) (D : Nat → Prop) (w pl : Nat) : Prop :=
  ((ff_v b n).1 ≠ 0 ∧ w = (ff_v b n).1 ∧ pl = (ff_v b n).2) ∨
  ((ff_v b n).1 = 0 ∧ pl_FBA b pl ∧ w = 4) ∨
  ((ff_v b n).1 = 0 ∧ vd_B b ∧ pl_FJA b pl ∧ w = 5) ∨
  ((ff_v b n).1 = 0 ∧ vd_B b ∧ vd_J b ∧ vd_W b pl ∧ w = 6) ∨
  ((ff_v b n).1 = 0 ∧ vd_B b ∧ vd_J b ∧ vd_F b ∧ (∃ i, D i ∧ pl = 2 + 3 * i) ∧ w = 7) ∨
  ((ff_v b n).1 = 0 ∧ vd_B b ∧ vd_J b ∧ vd_F b ∧ (∀ i, ¬ D i) ∧ w = 0 ∧ pl = 0)
theorem vd_xB {p : Nat} (h : pl_FBA b p) (h' : vd_B b) : False := by
  obtain ⟨f, hf, hF, _⟩ := h
  exact h' f hf p hF.1 hF.2.1
theorem vd_xJ {p : Nat} (h : pl_FJA b p) (h' : vd_J b) : False := by
  obtain ⟨f, hf, hF, _⟩ := h
  exact hF.2.1 (h' f hf p hF.1)
theorem vd_xF {p : Nat} (h : vd_W b p) (h' : vd_F b) : False := by
  obtain ⟨f, hf, hF, _⟩ := h
  exact hF (h' f hf)
theorem vd_uB {p q : Nat} (h : pl_FBA b p) (h' : pl_FBA b q) : p = q := by
  obtain ⟨f, hf, hF, hg⟩ := h
  obtain ⟨f', hf', hF', hg'⟩ := h'
  by_cases e : f = f'
  · subst e
    by_cases e1 : p < q
    · exact absurd hF.2.1 (hF'.2.2 p e1 hF.1)
    · by_cases e2 : q < p
      · exact absurd hF'.2.1 (hF.2.2 q e2 hF'.1)
      · omega
  · by_cases e1 : f < f'
    · exact absurd hF.2.1 (hg' f e1 p hF.1)
    · exact absurd hF'.2.1 (hg f' (by omega) q hF'.1)
theorem vd_uJ {p q : Nat} (h : pl_FJA b p) (h' : pl_FJA b q) : p = q := by
  obtain ⟨f, hf, hF, hg⟩ := h
  obtain ⟨f', hf', hF', hg'⟩ := h'
  by_cases e : f = f'
  · subst e
    by_cases e1 : p < q
    · exact absurd (hF'.2.2 p e1 hF.1) hF.2.1
    · by_cases e2 : q < p
      · exact absurd (hF.2.2 q e2 hF'.1) hF'.2.1
      · omega
  · by_cases e1 : f < f'
    · exact absurd (hg' f e1 p hF.1) hF.2.1
    · exact absurd (hg f' (by omega) q hF'.1) hF'.2.1
theorem vd_uW {p q : Nat} (h : vd_W b p) (h' : vd_W b q) : p = q := by
  obtain ⟨f, hf, hF, hg, rfl⟩ := h
  obtain ⟨f', hf', hF', hg', rfl⟩ := h'
  by_cases e : f = f'
  · rw [e]
  · by_cases e1 : f < f'
    · exact absurd (hg' f e1) hF
    · exact absurd (hg f' (by omega)) hF'
theorem vd_u {D : Nat → Prop} (hD : ∀ i j, D i → D j → i = j) {w w' p p' : Nat} (h : vd_R b n D w p) (h' : vd_R b n D w' p') : w = w' ∧ p = p' := by
  rcases h with ⟨z, e1, e2⟩ | ⟨z, x1, e1⟩ | ⟨z, x1, x2, e1⟩ | ⟨z, x1, x2, x3, e1⟩ | ⟨z, x1, x2, x3, x4, e1⟩ | ⟨z, x1, x2, x3, x4, e1, e2⟩
  · rcases h' with ⟨z', e1', e2'⟩ | ⟨z', x1', e1'⟩ | ⟨z', x1', x2', e1'⟩ | ⟨z', x1', x2', x3', e1'⟩ | ⟨z', x1', x2', x3', x4', e1'⟩ | ⟨z', x1', x2', x3', x4', e1', e2'⟩
    · exact ⟨by omega, by omega⟩
    · exact absurd z' z
    · exact absurd z' z
    · exact absurd z' z
    · exact absurd z' z
    · exact absurd z' z
  · rcases h' with ⟨z', e1', e2'⟩ | ⟨z', x1', e1'⟩ | ⟨z', x1', x2', e1'⟩ | ⟨z', x1', x2', x3', e1'⟩ | ⟨z', x1', x2', x3', x4', e1'⟩ | ⟨z', x1', x2', x3', x4', e1', e2'⟩
    · exact absurd z z'
    · exact ⟨by omega, vd_uB x1 x1'⟩
    · exact (vd_xB x1 x1').elim
    · exact (vd_xB x1 x1').elim
    · exact (vd_xB x1 x1').elim
    · exact (vd_xB x1 x1').elim
  · rcases h' with ⟨z', e1', e2'⟩ | ⟨z', x1', e1'⟩ | ⟨z', x1', x2', e1'⟩ | ⟨z', x1', x2', x3', e1'⟩ | ⟨z', x1', x2', x3', x4', e1'⟩ | ⟨z', x1', x2', x3', x4', e1', e2'⟩
    · exact absurd z z'
    · exact (vd_xB x1' x1).elim
    · exact ⟨by omega, vd_uJ x2 x2'⟩
    · exact (vd_xJ x2 x2').elim
    · exact (vd_xJ x2 x2').elim
    · exact (vd_xJ x2 x2').elim
  · rcases h' with ⟨z', e1', e2'⟩ | ⟨z', x1', e1'⟩ | ⟨z', x1', x2', e1'⟩ | ⟨z', x1', x2', x3', e1'⟩ | ⟨z', x1', x2', x3', x4', e1'⟩ | ⟨z', x1', x2', x3', x4', e1', e2'⟩
    · exact absurd z z'
    · exact (vd_xB x1' x1).elim
    · exact (vd_xJ x2' x2).elim
    · exact ⟨by omega, vd_uW x3 x3'⟩
    · exact (vd_xF x3 x3').elim
    · exact (vd_xF x3 x3').elim
  · rcases h' with ⟨z', e1', e2'⟩ | ⟨z', x1', e1'⟩ | ⟨z', x1', x2', e1'⟩ | ⟨z', x1', x2', x3', e1'⟩ | ⟨z', x1', x2', x3', x4', e1'⟩ | ⟨z', x1', x2', x3', x4', e1', e2'⟩
    · exact absurd z z'
    · exact (vd_xB x1' x1).elim
    · exact (vd_xJ x2' x2).elim
    · exact (vd_xF x3' x3).elim
    · obtain ⟨i, d, e⟩ := x4; obtain ⟨j, d', e'⟩ := x4'; have := hD i j d d'; exact ⟨by omega, by omega⟩
    · obtain ⟨i, d, e⟩ := x4; exact (x4' i d).elim
  · rcases h' with ⟨z', e1', e2'⟩ | ⟨z', x1', e1'⟩ | ⟨z', x1', x2', e1'⟩ | ⟨z', x1', x2', x3', e1'⟩ | ⟨z', x1', x2', x3', x4', e1'⟩ | ⟨z', x1', x2', x3', x4', e1', e2'⟩
    · exact absurd z z'
    · exact (vd_xB x1' x1).elim
    · exact (vd_xJ x2' x2).elim
    · exact (vd_xF x3' x3).elim
    · obtain ⟨i, d, e⟩ := x4'; exact (x4 i d).elim
    · exact ⟨by omega, by omega⟩
theorem de_u {q A B C : Nat → Int32} (i j : Nat) (h : de_F pt q A B C r b i) (h' : de_F pt q A B C r b j) : i = j := by
  by_cases e1 : i < j
  · exact absurd h.2.1 (h'.2.2 i e1)
  · by_cases e2 : j < i
    · exact absurd h'.2.1 (h.2.2 j e2)
    · omega
theorem x_submit {post : Int32 → SX → Prop} (hn : n ≤ 120) (hb : ∀ i, i < 120 → xby i = nI (b i)) (hv : ∀ i, b i < 256) (hr : r ≤ 12) (hR : ∀ i, i < r → pt i ≤ 3 ∧ (xrp i) >>> ((1 : Int32) &&& 31) = nI (pt i))
    (kf : ∀ w pl, vd_R b n (de_F pt xrp xrA xrB xrC r b) w pl → ¬ nI w = 0 → ∀ (xfc xrn xra : Int32) (xhd xst xen xre : Nat → Int32), post (nI w) (nI r, nI n, xfc, xrn, xra, nI w, nI pl, -1, xac, xlr, xhm, xrp, xrA, xrB, xrC, xby, xhd, xst, xbg, xco, xen, xre, xld, xim, xic, xih, xif, xop, xbp, xbq, xsc, xna, xhe, xlo, xsk))
    (ka : vd_R b n (de_F pt xrp xrA xrB xrC r b) 0 0 → pl_WF b n → ∀ (xrn xra : Int32) (xhd xst xen xre : Nat → Int32), (∀ f, f < pl_nf b → xhd f = nI (pl_hd b f)) → pl_ST b (pl_nf b) 0 xst →
      wpX_admit (fun u => post u.2.2.2.2.2.1 u) (nI r, nI n, nI (pl_nf b), xrn, xra, 0, -1, -1, xac, xlr, xhm, xrp, xrA, xrB, xrC, xby, xhd, xst, xbg, xco, xen, xre, xld, xim, xic, xih, xif, xop, xbp, xbq, xsc, xna, xhe, xlo, xsk)) :
    wpX_submit post (nI r, nI n, xfc, xrn, xra, xfi, xfp, xgn, xac, xlr, xhm, xrp, xrA, xrB, xrC, xby, xhd, xst, xbg, xco, xen, xre, xld, xim, xic, xih, xif, xop, xbp, xbq, xsc, xna, xhe, xlo, xsk) := by
  unfold wpX_submit
  dsimp only
  refine x_format (b := b) hn hb hv ⟨fun v0 xfc xra xhd ef eh => ?_, fun v0 xfc xra xhd => ?_⟩
  · subst ef
    have hF := ff_v0 v0
    refine br_t rfl ?_
    refine x_codes (b := b) hn hF eh hb hv (fun i hi xst => ?_) fun hB xst hS => ?_
    · have z : ¬ nI 4 = 0 := by decide
      have K := kf 4 i (Or.inr (Or.inl ⟨v0, hi, rfl⟩)) z
      exact br_f z (br_f z (br_f z (br_f z (K _ _ _ _ _ _ _))))
    refine br_t rfl ?_
    refine x_jumps (b := b) hn hF eh hb hv hS hB (fun i hi => ?_) fun hJ => ?_
    · have z : ¬ nI 5 = 0 := by decide
      have K := kf 5 i (Or.inr (Or.inr (Or.inl ⟨v0, hB, hi, rfl⟩))) z
      exact br_f z (br_f z (br_f z (K _ _ _ _ _ _ _)))
    refine br_t rfl ?_
    refine x_flows (b := b) hn hF eh hb hv hB hJ (fun f hf hW hg xrn xen xre => ?_) fun hW xrn xen xre => ?_
    · have z : ¬ nI 6 = 0 := by decide
      have K := kf 6 (pl_s b f) (Or.inr (Or.inr (Or.inr (Or.inl ⟨v0, hB, hJ, ⟨f, hf, hW, hg, rfl⟩, rfl⟩)))) z
      exact br_f z (br_f z (K _ _ _ _ _ _ _))
    refine br_t rfl ?_
    unfold wpX_checkImports
    dsimp only
    refine x_denB (b := b) hr hR hF.1 hb (fun i hi => ?_) fun hD => ?_
    · have K := kf 7 (2 + 3 * i) (Or.inr (Or.inr (Or.inr (Or.inr (Or.inl ⟨v0, hB, hJ, hW, ⟨i, hi, rfl⟩, rfl⟩))))) (by decide)
      have z : ¬ nI 7 = 0 := by decide
      have h4 := hF.1
      have hi1 := hi.1
      exact br_f (ba_m1ne (by omega)) (br_f z (K _ _ _ _ _ _ _))
    · refine br_t rfl (br_t rfl ?_)
      exact ka (Or.inr (Or.inr (Or.inr (Or.inr (Or.inr ⟨v0, hB, hJ, hW, fun i hi => hD i hi.1 hi.2.1, rfl, rfl⟩))))) ⟨hn, hF, fun f hf => ⟨hB f hf, hJ f hf, hW f hf⟩⟩ _ _ _ _ _ _ eh hS
  · have hw3 : (ff_v b n).1 ≤ 3 := by
      have s3 : ∀ a lo hi k, k.1 ≤ 3 → (ff_s b n a lo hi k).1 ≤ 3 := by
        intro a lo hi k hk
        rcases ff_c b n a lo hi k with ⟨_, _, _, e⟩ | ⟨_, e⟩ | ⟨_, _, e⟩
        · rw [e]; exact hk
        · rw [e]; show 1 ≤ 3; decide
        · rw [e]; show 2 ≤ 3; decide
      have f3 : ∀ d f, (ff_fn b n d f).1 ≤ 3 := by
        intro d
        induction d with
        | zero =>
          intro f
          unfold ff_fn
          split
          · show 0 ≤ 3; omega
          · show 3 ≤ 3; omega
        | succ d ih =>
          intro f
          unfold ff_fn
          refine s3 _ _ _ _ (s3 _ _ _ _ (s3 _ _ _ _ ?_))
          split
          · show 1 ≤ 3; omega
          · exact ih _
      have i3 : ∀ d i, (ff_im b n d i).1 ≤ 3 := by
        intro d
        induction d with
        | zero => intro i; exact s3 _ _ _ _ (f3 _ _)
        | succ d ih => intro i; exact s3 _ _ _ _ (ih _)
      exact s3 _ _ _ _ (s3 _ _ _ _ (i3 _ _))
    have z : ¬ nI (ff_v b n).1 = 0 := nI_ne0 (by omega) (by omega)
    have K := kf _ _ (Or.inl ⟨v0, rfl, rfl⟩) z
    exact br_f z (br_f z (br_f z (br_f z (br_f z (K _ _ _ _ _ _ _)))))
end C3
section C4
variable {r n : Nat} {pt M b : Nat → Nat} {xrc xbc xfc xrn xra xfi xfp xgn xac xlr : Int32} {xhm : Int64} {xrp xrA xrB xrC xby xhd xst xbg xco xen xre xld xim xic xih xif xop xbp xbq xsc xna xhe xlo xsk : Nat → Int32} {yru ypl ynu yps yfi yac yre : Int32} {yme : Int64} {yrp yrq yrl yby yle ypr ywa ybp ybq ybo ysc yfn yat yhi ylo yen : Nat → Int32}
theorem y_checked {post : Int32 → SY → Prop} (hn : n ≤ 120) (hl : yle 3 = nI n) (hv : ∀ i, M i < 256) (hR : re_RU r pt xrp xrA xrB xrC yrp yrq yrl)
    (kf : ∀ w pl, vd_R (re_b M 3) n (de_F pt xrp xrA xrB xrC r (re_b M 3)) w pl → w ≠ 0 → ∀ (yps : Int32) (ywa : Nat → Int32), post 0 (nI r, nI pl, ynu, yps, nI w, yac, yre, yme, yrp, yrq, yrl, fun i => nI (M i), yle, ypr, ywa, ybp, ybq, ybo, ysc, yfn, yat, yhi, ylo, yen))
    (ka : vd_R (re_b M 3) n (de_F pt xrp xrA xrB xrC r (re_b M 3)) 0 0 → ∀ (yps : Int32) (ywa : Nat → Int32), post 1 (nI r, ypl, ynu, yps, yfi, yac, yre, yme, yrp, yrq, yrl, fun i => nI (M i), yle, ypr, ywa, ybp, ybq, ybo, ysc, yfn, yat, yhi, ylo, yen)) :
    wpY_checked post (nI r, ypl, ynu, yps, yfi, yac, yre, yme, yrp, yrq, yrl, fun i => nI (M i), yle, ypr, ywa, ybp, ybq, ybo, ysc, yfn, yat, yhi, ylo, yen) := by
  unfold wpY_checked
  dsimp only
  refine y_format hn hl hv ⟨fun v0 yps => br_f ba_10 ?_, fun v0 yps => br_t rfl (kf _ _ (Or.inl ⟨v0, rfl, rfl⟩) v0 _ _)⟩
  have hF := ff_v0 v0
  have h4 := hF.2.2.2.1
  refine y_functions (p := 3) (by omega) hF.1 ⟨pl_nf (re_b M 3) + 1, ?_⟩
  have L3 : vd_B (re_b M 3) → vd_J (re_b M 3) → ∀ d f, ∀ ywa : Nat → Int32, f + d = pl_nf (re_b M 3) → (∀ g, g < f → pl_Flow (re_b M 3) g) → wY_checked_63 post (nI (pl_nf (re_b M 3))) (d + 1) (nI f) (nI r) ypl ynu yps yfi yac yre yme yrp yrq yrl (fun i => nI (M i)) yle ypr ywa ybp ybq ybo ysc yfn yat yhi ylo yen := by
    intro hB hJ d
    induction d with
    | zero =>
      intro f ywa hf hg
      have : f = pl_nf (re_b M 3) := by omega
      subst this
      refine br_t (nI_le (Nat.le_refl _) (by omega)) (y_denied (p := 3) (by omega) hR hF.1 hF.2.1 (fun i hi => br_f (nI_pos (by have := hi.1; have := hF.1; omega)) (br_t rfl ?_)) fun hD => br_t ba_m1lt ?_)
      · rw [show 2 + nI i * 3 = nI (2 + 3 * i) by rw [show nI i * 3 = nI (i * 3) from pk_mul i 3, show 2 + nI (i * 3) = nI (2 + i * 3) from nI_add 2 _, Nat.mul_comm]]
        exact kf 7 (2 + 3 * i) (Or.inr (Or.inr (Or.inr (Or.inr (Or.inl ⟨v0, hB, hJ, hg, ⟨i, hi, rfl⟩, rfl⟩))))) (by omega) _ _
      · exact ka (Or.inr (Or.inr (Or.inr (Or.inr (Or.inr ⟨v0, hB, hJ, hg, fun i hi => hD i hi.1 hi.2.1, rfl, rfl⟩))))) _ _
    | succ d ih =>
      intro f ywa hf hg
      refine br_f (nI_ge (by omega) (by omega)) (y_flow hn hF (by omega) hv (hB f (by omega)) (hJ f (by omega)) (fun q ywa' => br_f ba_10 (nm_r (nI_1 f) (ih (f + 1) ywa' (by omega) fun g hg' => ?_))) fun q ywa' => br_t rfl ?_)
      · by_cases e : g = f
        · subst e; exact q
        · exact hg g (by omega)
      · exact kf 6 (pl_s (re_b M 3) f) (Or.inr (Or.inr (Or.inr (Or.inl ⟨v0, hB, hJ, ⟨f, by omega, q, hg, rfl⟩, rfl⟩)))) (by omega) _ _
  have L2 : vd_B (re_b M 3) → ∀ d f, f + d = pl_nf (re_b M 3) → (∀ g, g < f → ∀ j, pl_IS (re_b M 3) g j → pl_jok (re_b M 3) g j) → wY_checked_40 post (nI (pl_nf (re_b M 3))) (d + 1) (nI f) (nI r) ypl ynu yps yfi yac yre yme yrp yrq yrl (fun i => nI (M i)) yle ypr ywa ybp ybq ybo ysc yfn yat yhi ylo yen := by
    intro hB d
    induction d with
    | zero =>
      intro f hf hg
      have : f = pl_nf (re_b M 3) := by omega
      subst this
      exact br_t (nI_le (Nat.le_refl _) (by omega)) ⟨_, L3 hB hg (pl_nf (re_b M 3)) 0 _ (by omega) fun g h => absurd h (by omega)⟩
    | succ d ih =>
      intro f hf hg
      refine br_f (nI_ge (by omega) (by omega)) (y_jumps hn hF (by omega) hv (hB f (by omega)) (fun i hi => br_t rfl ?_) fun q => br_f ba_10 (nm_r (nI_1 f) (ih (f + 1) (by omega) fun g hg' => ?_)))
      · exact kf 5 i (Or.inr (Or.inr (Or.inl ⟨v0, hB, ⟨f, by omega, hi, hg⟩, rfl⟩))) (by omega) _ _
      · by_cases e : g = f
        · subst e; exact q
        · exact hg g (by omega)
  have L1 : ∀ d f, f + d = pl_nf (re_b M 3) → (∀ g, g < f → ∀ j, pl_IS (re_b M 3) g j → ¬ pl_bad (re_b M 3) g j) → wY_checked_17 post (nI (pl_nf (re_b M 3))) (d + 1) (nI f) (nI r) ypl ynu yps yfi yac yre yme yrp yrq yrl (fun i => nI (M i)) yle ypr ywa ybp ybq ybo ysc yfn yat yhi ylo yen := by
    intro d
    induction d with
    | zero =>
      intro f hf hg
      have : f = pl_nf (re_b M 3) := by omega
      subst this
      exact br_t (nI_le (Nat.le_refl _) (by omega)) ⟨_, L2 hg (pl_nf (re_b M 3)) 0 (by omega) fun g h => absurd h (by omega)⟩
    | succ d ih =>
      intro f hf hg
      refine br_f (nI_ge (by omega) (by omega)) (y_codes hn hF (by omega) hv (fun i hi => br_t rfl ?_) fun q => br_f ba_10 (nm_r (nI_1 f) (ih (f + 1) (by omega) fun g hg' => ?_)))
      · exact kf 4 i (Or.inr (Or.inl ⟨v0, ⟨f, by omega, hi, hg⟩, rfl⟩)) (by omega) _ _
      · by_cases e : g = f
        · subst e; exact q
        · exact hg g (by omega)
  exact L1 (pl_nf (re_b M 3)) 0 (by omega) fun g h => absurd h (by omega)
end C4
end
section
section C5
variable {r n : Nat} {pt M b : Nat → Nat} {xrc xbc xfc xrn xra xfi xfp xgn xac xlr : Int32} {xhm : Int64} {xrp xrA xrB xrC xby xhd xst xbg xco xen xre xld xim xic xih xif xop xbp xbq xsc xna xhe xlo xsk : Nat → Int32} {yru ypl ynu yps yfi yac yre : Int32} {yme : Int64} {yrp yrq yrl yby yle ypr ywa ybp ybq ybo ysc yfn yat yhi ylo yen : Nat → Int32}
/-! where blocks begin -/
def mb_S (b : Nat → Nat) (g : Nat → Int32) : Prop := ∀ j, j < 120 → ¬ g j = 0 → ∃ f, f < pl_nf b ∧ pl_s b f ≤ j ∧ j < pl_e b f ∧ pl_L b f j
def mb_m (b : Nat → Nat) (f : Nat) (g : Nat → Int32) (i : Nat) : Prop :=
  ((b i = 10 ∨ b i = 11) → ∀ j : Nat, pl_tg b i = (j : Int) → ¬ g j = 0) ∧ ((10 ≤ b i ∧ b i ≤ 13) → i + 2 < pl_e b f → ¬ g (i + 2) = 0) ∧ (b i = 16 → i + 1 < pl_e b f → ¬ g (i + 1) = 0)
def mb_M (g g' : Nat → Int32) : Prop := ∀ j, ¬ g j = 0 → ¬ g' j = 0
def mb_G (b : Nat → Nat) (g : Nat → Int32) : Prop := ∀ j, j < 120 → (¬ g j = 0 ↔ ∃ f, f < pl_nf b ∧ pl_s b f ≤ j ∧ j < pl_e b f ∧ pl_L b f j)
theorem mb_up (g : Nat → Int32) (k : Nat) : mb_M g (upd g k 1) := by
  intro j h
  by_cases e : j = k
  · subst e; rw [pk_us]; exact ba_10
  · rw [pk_un e]; exact h
theorem mb_mm {f i : Nat} {g g' : Nat → Int32} (h : mb_M g g') (hm : mb_m b f g i) : mb_m b f g' i :=
  ⟨fun c j e => h _ (hm.1 c j e), fun c e => h _ (hm.2.1 c e), fun c e => h _ (hm.2.2 c e)⟩
theorem mb_Su {f k : Nat} {g : Nat → Int32} (h : mb_S b g) (hf : f < pl_nf b) (h1 : pl_s b f ≤ k) (h2 : k < pl_e b f) (hL : pl_L b f k) : mb_S b (upd g k 1) := by
  intro j hj hz
  by_cases e : j = k
  · subst e; exact ⟨f, hf, h1, h2, hL⟩
  · rw [pk_un e] at hz; exact h j hj hz
theorem x_ends {post : Int32 → Prop} {c : Nat} (hc : c < 256) (k1 : (c = 10 ∨ c = 11 ∨ c = 12 ∨ c = 13 ∨ c = 16) → post 1) (k0 : ¬ (c = 10 ∨ c = 11 ∨ c = 12 ∨ c = 13 ∨ c = 16) → post 0) : wpX_endsBlock post (xrc, xbc, xfc, xrn, xra, xfi, xfp, xgn, xac, xlr, xhm, xrp, xrA, xrB, xrC, xby, xhd, xst, xbg, xco, xen, xre, xld, xim, xic, xih, xif, xop, xbp, xbq, xsc, xna, xhe, xlo, xsk) (nI c) := by
  unfold wpX_endsBlock
  dsimp only
  refine x_isJump hc (fun h => br_f ba_10 (k1 (by omega))) fun h => br_t rfl ?_
  exact pk_eq c 12 (fun h1 => k1 (by omega)) fun h1 => pk_eq c 13 (fun h2 => k1 (by omega)) fun h2 => pk_eq c 16 (fun h3 => k1 (by omega)) fun h3 => k0 (by omega)
theorem x_around34 {post : SX → Prop} {f i : Nat} (hn : n ≤ 120) (hF : pl_Fmt b n) (hf : f < pl_nf b) (hv : ∀ i, b i < 256) (hI : pl_IS b f i) (bad : ¬ pl_bad b f i) (hS : mb_S b xbg)
    (k : ∀ xbg' : Nat → Int32, mb_S b xbg' → mb_M xbg xbg' → ((10 ≤ b i ∧ b i ≤ 13) → i + 2 < pl_e b f → ¬ xbg' (i + 2) = 0) → (b i = 16 → i + 1 < pl_e b f → ¬ xbg' (i + 1) = 0) → post (xrc, xbc, xfc, xrn, xra, xfi, xfp, xgn, xac, xlr, xhm, xrp, xrA, xrB, xrC, xby, xhd, xst, xbg', xco, xen, xre, xld, xim, xic, xih, xif, xop, xbp, xbq, xsc, xna, xhe, xlo, xsk)) :
    wX_markAround_34 post (nI i) (nI (pl_e b f)) (nI (b i)) xrc xbc xfc xrn xra xfi xfp xgn xac xlr xhm xrp xrA xrB xrC xby xhd xst xbg xco xen xre xld xim xic xih xif xop xbp xbq xsc xna xhe xlo xsk := by
  have he := pl_ef hF hf
  have nx := pl_nx bad hI.1
  have sa := pl_ISge hI
  have vi := hv i
  refine x_sizeOf vi (nm_r (nI_add _ _) (pk_le (pl_e b f) (i + pl_sz (b i)) (fun h => ?_) fun h => ?_))
  · refine k xbg hS (fun _ z => z) (fun c z => ?_) fun c z => ?_
    · have := pl_sz2.mpr (show b i ≤ 2 ∨ (10 ≤ b i ∧ b i ≤ 15) by omega); omega
    · have := pl_sz1.mpr (show ¬ (b i ≤ 2 ∨ (10 ≤ b i ∧ b i ≤ 15)) by omega); omega
  · refine x_ends vi (fun c => br_f ba_10 ⟨vp_in_nI (by omega) (by omega), nm_r (show _ = upd xbg (i + pl_sz (b i)) 1 by rw [nI_clamp (by omega), ba_vb1]) ?_⟩) fun c => br_t rfl ?_
    · refine k _ (mb_Su hS hf (by omega) (by omega) (Or.inr ⟨i, hI, ?_⟩)) (mb_up _ _) (fun c' z => ?_) fun c' z => ?_
      · by_cases c16 : b i = 16
        · exact Or.inr (Or.inr ⟨c16, by rw [pl_sz1.mpr (show ¬ (b i ≤ 2 ∨ (10 ≤ b i ∧ b i ≤ 15)) by omega)]⟩)
        · exact Or.inr (Or.inl ⟨by omega, by omega, by rw [pl_sz2.mpr (show b i ≤ 2 ∨ (10 ≤ b i ∧ b i ≤ 15) by omega)]⟩)
      · rw [pl_sz2.mpr (show b i ≤ 2 ∨ (10 ≤ b i ∧ b i ≤ 15) by omega), pk_us]; exact ba_10
      · rw [pl_sz1.mpr (show ¬ (b i ≤ 2 ∨ (10 ≤ b i ∧ b i ≤ 15)) by omega), pk_us]; exact ba_10
    · exact k xbg hS (fun _ z => z) (fun c' z => absurd c' (by omega)) fun c' z => absurd c' (by omega)
theorem x_around {post : SX → Prop} {f i : Nat} (hn : n ≤ 120) (hF : pl_Fmt b n) (hf : f < pl_nf b) (hb : ∀ i, i < 120 → xby i = nI (b i)) (hv : ∀ i, b i < 256) (hI : pl_IS b f i) (bad : ¬ pl_bad b f i) (jok : pl_jok b f i) (hS : mb_S b xbg)
    (k : ∀ xbg' : Nat → Int32, mb_S b xbg' → mb_M xbg xbg' → mb_m b f xbg' i → post (xrc, xbc, xfc, xrn, xra, xfi, xfp, xgn, xac, xlr, xhm, xrp, xrA, xrB, xrC, xby, xhd, xst, xbg', xco, xen, xre, xld, xim, xic, xih, xif, xop, xbp, xbq, xsc, xna, xhe, xlo, xsk)) :
    wpX_markAround post (xrc, xbc, xfc, xrn, xra, xfi, xfp, xgn, xac, xlr, xhm, xrp, xrA, xrB, xrC, xby, xhd, xst, xbg, xco, xen, xre, xld, xim, xic, xih, xif, xop, xbp, xbq, xsc, xna, xhe, xlo, xsk) (nI i) (nI (pl_e b f)) := by
  have he := pl_ef hF hf
  have la := hI.1
  unfold wpX_markAround
  dsimp only
  rw [nI_clamp (by omega), hb i (by omega)]
  refine ⟨vp_in_nI (by omega) (by omega), nm_e ?_⟩
  refine x_isJump (hv i) (fun c => br_f ba_10 ?_) fun c => br_t rfl ?_
  · obtain ⟨t, et, st, it⟩ := jok c
    have hw : i + 1 < pl_e b f := pl_wide bad (pl_sz2.mpr (by omega))
    have lt := it.1
    refine x_targetB (b := b) (by omega) hb hv fun T hT => ?_
    have eT := tg_n (hT.trans et) (by omega)
    subst eT
    refine ⟨vp_in_nI (by omega) (by omega), nm_r (show _ = upd xbg t 1 by rw [nI_clamp (by omega), ba_vb1]) ?_⟩
    refine x_around34 (b := b) hn hF hf hv hI bad (mb_Su hS hf st lt (Or.inr ⟨i, hI, Or.inl ⟨c, et⟩⟩)) fun xbg' h1 h2 h3 h4 => k xbg' h1 (fun j z => h2 j (mb_up _ _ j z)) ⟨fun _ j ej => h2 j ?_, h3, h4⟩
    have : j = t := by omega
    subst this
    rw [pk_us]; exact ba_10
  · exact x_around34 (b := b) hn hF hf hv hI bad hS fun xbg' h1 h2 h3 h4 => k xbg' h1 h2 ⟨fun c' => absurd c' c, h3, h4⟩
theorem x_marks {post : SX → Prop} (hn : n ≤ 120) (hF : pl_Fmt b n) (h0 : ∀ f, f < pl_nf b → xhd f = nI (pl_hd b f)) (hb : ∀ i, i < 120 → xby i = nI (b i)) (hv : ∀ i, b i < 256) (hT : pl_ST b (pl_nf b) 0 xst) (hC : vd_B b) (hJ : vd_J b)
    (k : ∀ xbg : Nat → Int32, mb_G b xbg → post (xrc, xbc, nI (pl_nf b), xrn, xra, xfi, xfp, xgn, xac, xlr, xhm, xrp, xrA, xrB, xrC, xby, xhd, xst, xbg, xco, xen, xre, xld, xim, xic, xih, xif, xop, xbp, xbq, xsc, xna, xhe, xlo, xsk)) : wpX_markBlocks post (xrc, xbc, nI (pl_nf b), xrn, xra, xfi, xfp, xgn, xac, xlr, xhm, xrp, xrA, xrB, xrC, xby, xhd, xst, xbg, xco, xen, xre, xld, xim, xic, xih, xif, xop, xbp, xbq, xsc, xna, xhe, xlo, xsk) := by
  have h4 := hF.2.2.2.1
  have O : ∀ d f, ∀ xbg : Nat → Int32, f + d = pl_nf b → mb_S b xbg → (∀ g, g < f → ¬ xbg (pl_s b g) = 0 ∧ ∀ i, pl_IS b g i → mb_m b g xbg i) → wX_markBlocks_23 post (d + 1) (nI f) xrc xbc (nI (pl_nf b)) xrn xra xfi xfp xgn xac xlr xhm xrp xrA xrB xrC xby xhd xst xbg xco xen xre xld xim xic xih xif xop xbp xbq xsc xna xhe xlo xsk := by
    intro d
    induction d with
    | zero =>
      intro f xbg hf hS hg
      have : f = pl_nf b := by omega
      subst this
      refine br_t (nI_le (Nat.le_refl _) (by omega)) (k xbg fun j hj => ⟨hS j hj, fun ⟨f, hf, h1, h2, h3⟩ => ?_⟩)
      rcases h3 with rfl | ⟨i, hi, h5 | h5 | h5⟩
      · exact (hg f hf).1
      · exact ((hg f hf).2 i hi).1 h5.1 j h5.2
      · obtain ⟨c1, c2, rfl⟩ := h5
        exact ((hg f hf).2 i hi).2.1 ⟨c1, c2⟩ h2
      · obtain ⟨c1, rfl⟩ := h5
        exact ((hg f hf).2 i hi).2.2 c1 h2
    | succ d ih =>
      intro f xbg hf hS hg
      have he := pl_ef hF (f := f) (by omega)
      have hh := pl_hf hF (f := f) (by omega)
      have hs : pl_s b f < pl_e b f := hh
      refine br_f (nI_ge (by omega) (by omega)) ?_
      refine x_codeFirst (b := b) (by omega) (h0 f (by omega)) ?_
      refine x_codeEnd (b := b) (by omega) (h0 f (by omega)) (by omega) hb ⟨vp_in_nI (by omega) (by omega), nm_r (show _ = upd xbg (pl_s b f) 1 by rw [nI_clamp (by omega), ba_vb1]) ⟨pl_e b f - pl_s b f + 1, ?_⟩⟩
      have I : ∀ d' a, ∀ xbg : Nat → Int32, a + d' = pl_e b f → pl_s b f ≤ a → mb_S b xbg → (∀ g, g < f → ¬ xbg (pl_s b g) = 0 ∧ ∀ i, pl_IS b g i → mb_m b g xbg i) → ¬ xbg (pl_s b f) = 0 → (∀ i, i < a → pl_IS b f i → mb_m b f xbg i) →
          wX_markBlocks_53 post (wX_markBlocks_23 post (d + 1)) (nI f) (nI (pl_e b f)) (d' + 1) (nI a) xrc xbc (nI (pl_nf b)) xrn xra xfi xfp xgn xac xlr xhm xrp xrA xrB xrC xby xhd xst xbg xco xen xre xld xim xic xih xif xop xbp xbq xsc xna xhe xlo xsk := by
        intro d'
        induction d' with
        | zero =>
          intro a xbg ha h1 h2 h3 h5 h6
          refine br_t (nI_le (by omega) (by omega)) (nm_r (nI_1 f) (ih (f + 1) xbg (by omega) h2 fun g hg' => ?_))
          by_cases e : g = f
          · subst e; exact ⟨h5, fun i hi => h6 i (by have := hi.1; omega) hi⟩
          · exact h3 g (by omega)
        | succ d' ih' =>
          intro a xbg ha h1 h2 h3 h5 h6
          refine br_f (nI_ge (by omega) (by omega)) ⟨vp_in_nI (by omega) (by omega), ?_⟩
          rw [nI_clamp (by omega)]
          have sf := st_f hT (f := f) (by omega) h1 (by omega) (by omega)
          refine br_c (fun z => nm_r (nI_1 a) (ih' (a + 1) xbg (by omega) (by omega) h2 h3 h5 fun i hi hI => ?_)) fun z => ?_
          · by_cases e : i = a
            · subst e; exact absurd z (sf.mpr hI)
            · exact h6 i (by omega) hI
          · have is := sf.mp z
            refine x_around (b := b) hn hF (by omega) hb hv is (hC f (by omega) a is) (hJ f (by omega) a is) h2 fun xbg' q1 q2 q3 => nm_r (nI_1 a) (ih' (a + 1) xbg' (by omega) (by omega) q1 (fun g hg' => ⟨q2 _ (h3 g hg').1, fun i hi => mb_mm q2 ((h3 g hg').2 i hi)⟩) (q2 _ h5) fun i hi hI => ?_)
            by_cases e : i = a
            · subst e; exact q3
            · exact mb_mm q2 (h6 i (by omega) hI)
      refine I (pl_e b f - pl_s b f) (pl_s b f) _ (by omega) (Nat.le_refl _) (mb_Su hS (f := f) (by omega) (Nat.le_refl _) hs (Or.inl rfl)) (fun g hg' => ⟨mb_up _ _ _ (hg g hg').1, fun i hi => mb_mm (mb_up _ _) ((hg g hg').2 i hi)⟩) (by rw [pk_us]; exact ba_10) fun i hi hI => absurd (pl_ISge hI) (by omega)
  have Z : ∀ d a, ∀ xbg : Nat → Int32, a + d = 120 → (∀ j, j < a → xbg j = 0) → wX_markBlocks_2 post xrc xbc (nI (pl_nf b)) xrn xra xfi xfp xgn xac xlr xhm (d + 1) (nI a) xrp xrA xrB xrC xby xhd xst xbg xco xen xre xld xim xic xih xif xop xbp xbq xsc xna xhe xlo xsk := by
    intro d
    induction d with
    | zero =>
      intro a xbg ha hz
      exact br_t (nI_le (a := 120) (by omega) (by omega)) ⟨_, O (pl_nf b) 0 xbg (by omega) (fun j hj z => absurd (hz j (by omega)) z) fun g hg => absurd hg (by omega)⟩
    | succ d ih =>
      intro a xbg ha hz
      refine br_f (nI_ge (b := 120) (by omega) (by decide)) ⟨vp_in_nI (by omega) (by omega), nm_r (show _ = upd xbg a 0 by rw [nI_clamp (by omega), ba_vb0]) (nm_r (nI_1 a) (ih (a + 1) _ (by omega) fun j hj => ?_))⟩
      by_cases e : j = a
      · subst e; exact pk_us
      · rw [pk_un e]; exact hz j (by omega)
  exact ⟨_, Z 120 0 xbg rfl fun j hj => absurd hj (by omega)⟩
end C5
end
section
section C6
variable {r n : Nat} {pt M b : Nat → Nat} {xrc xbc xfc xrn xra xfi xfp xgn xac xlr : Int32} {xhm : Int64} {xrp xrA xrB xrC xby xhd xst xbg xco xen xre xld xim xic xih xif xop xbp xbq xsc xna xhe xlo xsk : Nat → Int32} {yru ypl ynu yps yfi yac yre : Int32} {yme : Int64} {yrp yrq yrl yby yle ypr ywa ybp ybq ybo ysc yfn yat yhi ylo yen : Nat → Int32}
/-! what a block costs -/
def sc_w (st : Nat → Int32) (b : Nat → Nat) (j : Nat) : Nat := if st j = 0 then 0 else pl_wt (b j)
def sc_t (st g : Nat → Int32) (b : Nat → Nat) : Nat → Nat → Nat
  | 0, _ => 0
  | d + 1, m => if g m = 0 then sc_w st b m + sc_t st g b d (m + 1) else 0
def sc_T (st g : Nat → Int32) (b : Nat → Nat) (n m : Nat) : Nat := sc_t st g b (n - m) m
theorem sc_T0 {st g : Nat → Int32} {m : Nat} (hm : m < n) (h : g m = 0) : sc_T st g b n m = sc_w st b m + sc_T st g b n (m + 1) := by
  unfold sc_T
  rw [show n - m = (n - (m + 1)) + 1 by omega]
  show (if g m = 0 then _ else _) = _
  rw [if_pos h]
theorem sc_T1 {st g : Nat → Int32} {m : Nat} (h : ¬ g m = 0) : sc_T st g b n m = 0 := by
  unfold sc_T
  cases e : n - m with
  | zero => rfl
  | succ d =>
    show (if g m = 0 then _ else _) = _
    rw [if_neg h]
theorem sc_Tn {st g : Nat → Int32} {m : Nat} (h : n ≤ m) : sc_T st g b n m = 0 := by
  unfold sc_T
  rw [show n - m = 0 by omega]
  rfl
/-- the costs as they stand before byte m, the block from g on not yet ended -/
def sc_I (st bg : Nat → Int32) (b : Nat → Nat) (n m g : Nat) (co : Nat → Int32) : Prop :=
  (∀ j, j < m → bg j = 0 → co j = 0) ∧ (∀ j, j < m → ¬ bg j = 0 → j ≠ g → co j = nI (sc_w st b j + sc_T st bg b n (j + 1))) ∧
  ((g < m ∧ ¬ bg g = 0 ∧ ∃ v, co g = nI v ∧ v + sc_T st bg b n m = sc_w st b g + sc_T st bg b n (g + 1)) ∨ (g = 0 ∧ ∀ j, j < m → bg j = 0))
theorem sc_s0 {st bg co : Nat → Int32} {m g : Nat} (hm : m < n) (hI : sc_I st bg b n m g co) (h1 : bg m = 0) (h2 : st m = 0) : sc_I st bg b n (m + 1) g (upd co m 0) := by
  have hw : sc_w st b m = 0 := if_pos h2
  have hT := sc_T0 (b := b) (st := st) hm h1
  obtain ⟨a1, a2, a3⟩ := hI
  refine ⟨fun j hj hz => ?_, fun j hj hz hg => ?_, ?_⟩
  · by_cases e : j = m
    · subst e; exact pk_us
    · rw [pk_un e]; exact a1 j (by omega) hz
  · by_cases e : j = m
    · subst e; exact absurd h1 hz
    · rw [pk_un e]; exact a2 j (by omega) hz hg
  · rcases a3 with ⟨q1, q2, v, q3, q4⟩ | ⟨q1, q2⟩
    · exact Or.inl ⟨by omega, q2, v, by rw [pk_un (by omega)]; exact q3, by omega⟩
    · refine Or.inr ⟨q1, fun j hj => ?_⟩
      by_cases e : j = m
      · subst e; exact h1
      · exact q2 j (by omega)
theorem sc_s1 {st bg co : Nat → Int32} {m g : Nat} (hm : m < n) (hI : sc_I st bg b n m g co) (h1 : bg m = 0) (h2 : ¬ st m = 0) (hx : ¬ ∀ j, j < m → bg j = 0) :
    sc_I st bg b n (m + 1) g (upd (upd co m 0) g ((upd co m 0) g + nI (pl_wt (b m)))) ∧ g < m := by
  have hw : sc_w st b m = pl_wt (b m) := if_neg h2
  have hT := sc_T0 (b := b) (st := st) hm h1
  obtain ⟨a1, a2, a3⟩ := hI
  rcases a3 with ⟨q1, q2, v, q3, q4⟩ | ⟨q1, q2⟩
  · refine ⟨⟨fun j hj hz => ?_, fun j hj hz hg => ?_, Or.inl ⟨by omega, q2, v + pl_wt (b m), ?_, by omega⟩⟩, q1⟩
    · have e1 : j ≠ g := by intro e; subst e; exact q2 hz
      rw [pk_un e1]
      by_cases e : j = m
      · subst e; exact pk_us
      · rw [pk_un e]; exact a1 j (by omega) hz
    · rw [pk_un hg]
      by_cases e : j = m
      · subst e; exact absurd h1 hz
      · rw [pk_un e]; exact a2 j (by omega) hz hg
    · rw [pk_us, pk_un (show g ≠ m by omega), q3, nI_add]
  · exact absurd q2 hx
theorem sc_close {st bg co : Nat → Int32} {m g : Nat} (hI : sc_I st bg b n m g co) (hT : sc_T st bg b n m = 0) : ∀ j, j < m → ¬ bg j = 0 → co j = nI (sc_w st b j + sc_T st bg b n (j + 1)) := by
  intro j hj hz
  obtain ⟨a1, a2, a3⟩ := hI
  by_cases e : j = g
  · subst e
    rcases a3 with ⟨q1, q2, v, q3, q4⟩ | ⟨q1, q2⟩
    · rw [q3]; exact congrArg nI (by omega)
    · exact absurd (q2 j hj) hz
  · exact a2 j hj hz e
theorem sc_s2 {st bg co : Nat → Int32} {m g : Nat} (hI : sc_I st bg b n m g co) (h1 : ¬ bg m = 0) : sc_I st bg b n (m + 1) m (upd (upd co m 0) m ((upd co m 0) m + nI (sc_w st b m))) := by
  have cl := sc_close hI (sc_T1 h1)
  obtain ⟨a1, a2, a3⟩ := hI
  refine ⟨fun j hj hz => ?_, fun j hj hz hg => ?_, Or.inl ⟨by omega, h1, sc_w st b m, ?_, rfl⟩⟩
  · have e : j ≠ m := by intro e; subst e; exact h1 hz
    rw [pk_un e, pk_un e]; exact a1 j (by omega) hz
  · rw [pk_un hg, pk_un hg]; exact cl j (by omega) hz
  · rw [pk_us, pk_us]; show 0 + nI _ = _; exact Int32.zero_add _
theorem sc_s2' {st bg co : Nat → Int32} {m g : Nat} (hI : sc_I st bg b n m g co) (h1 : ¬ bg m = 0) (h2 : st m = 0) : sc_I st bg b n (m + 1) m (upd co m 0) := by
  have h := sc_s2 hI h1
  have e : upd (upd co m 0) m ((upd co m 0) m + nI (sc_w st b m)) = upd co m 0 := by
    funext j
    by_cases e : j = m
    · subst e
      rw [pk_us, pk_us, show sc_w st b j = 0 from if_pos h2]
      decide
    · rw [pk_un e]
  rw [e] at h
  exact h
theorem x_sums {post : SX → Prop} (hn : n ≤ 120) (hb : ∀ i, i < 120 → xby i = nI (b i)) (hv : ∀ i, b i < 256) (hx : ∀ m, m < n → ¬ xst m = 0 → xbg m = 0 → ¬ ∀ j, j < m → xbg j = 0)
    (k : ∀ xco : Nat → Int32, (∀ j, j < n → xbg j = 0 → xco j = 0) → (∀ j, j < n → ¬ xbg j = 0 → xco j = nI (sc_w xst b j + sc_T xst xbg b n (j + 1))) → post (xrc, nI n, xfc, xrn, xra, xfi, xfp, xgn, xac, xlr, xhm, xrp, xrA, xrB, xrC, xby, xhd, xst, xbg, xco, xen, xre, xld, xim, xic, xih, xif, xop, xbp, xbq, xsc, xna, xhe, xlo, xsk)) : wpX_sumCosts post (xrc, nI n, xfc, xrn, xra, xfi, xfp, xgn, xac, xlr, xhm, xrp, xrA, xrB, xrC, xby, xhd, xst, xbg, xco, xen, xre, xld, xim, xic, xih, xif, xop, xbp, xbq, xsc, xna, xhe, xlo, xsk) := by
  have L : ∀ d m g, ∀ xco : Nat → Int32, m + d = n → g < 120 → sc_I xst xbg b n m g xco → wX_sumCosts_4 post xrc (nI n) xfc xrn xra xfi xfp xgn xac xlr xhm (d + 1) (nI g) (nI m) xrp xrA xrB xrC xby xhd xst xbg xco xen xre xld xim xic xih xif xop xbp xbq xsc xna xhe xlo xsk := by
    intro d
    induction d with
    | zero =>
      intro m g xco hm hg hI
      have : m = n := by omega
      subst this
      exact br_t (nI_le (Nat.le_refl _) (by omega)) (k xco hI.1 (sc_close hI (sc_Tn (Nat.le_refl _))))
    | succ d ih =>
      intro m g xco hm hg hI
      have V : vp_in (nI m) 120 := vp_in_nI (by omega) (by omega)
      have vm := hv m
      refine br_f (nI_ge (by omega) (by omega)) ⟨V, nm_r (show _ = upd xco m 0 by rw [nI_clamp (by omega)]) ⟨V, ?_⟩⟩
      -- the addition, at any block g'
      have A : ∀ g', g' < 120 → (xst m = 0 → sc_I xst xbg b n (m + 1) g' (upd xco m 0)) → (¬ xst m = 0 → sc_I xst xbg b n (m + 1) g' (upd (upd xco m 0) g' ((upd xco m 0) g' + nI (pl_wt (b m))))) →
          wX_sumCosts_30 post (wX_sumCosts_4 post xrc (nI n) xfc xrn xra xfi xfp xgn xac xlr xhm (d + 1)) (nI g') (nI m) xrc (nI n) xfc xrn xra xfi xfp xgn xac xlr xhm xrp xrA xrB xrC xby xhd xst xbg (upd xco m 0) xen xre xld xim xic xih xif xop xbp xbq xsc xna xhe xlo xsk := by
        intro g' hg' I0 I1
        unfold wX_sumCosts_30
        rw [nI_clamp (by omega), nI_clamp (by omega), hb m (by omega)]
        refine ⟨V, br_c (fun z => nm_r (nI_1 m) (ih (m + 1) g' _ (by omega) hg' (I0 z))) fun z => ⟨vp_in_nI hg' (by omega), V, pk_eq (b m) 13 (fun c => ⟨vp_in_nI hg' (by omega), nm_e (nm_r (nI_1 m) (ih (m + 1) g' _ (by omega) hg' ?_))⟩) fun c => ⟨vp_in_nI hg' (by omega), nm_e (nm_r (nI_1 m) (ih (m + 1) g' _ (by omega) hg' ?_))⟩⟩⟩
        · have := I1 z
          rw [show pl_wt (b m) = 5 from if_pos c] at this
          exact this
        · have := I1 z
          rw [show pl_wt (b m) = 1 from if_neg c] at this
          exact this
      rw [nI_clamp (by omega)]
      refine br_c (fun z => A g hg (fun z' => sc_s0 (by omega) hI z z') fun z' => (sc_s1 (by omega) hI z z' (hx m (by omega) z' z)).1) fun z => A m (by omega) (fun z' => sc_s2' hI z z') fun z' => ?_
      have := sc_s2 hI z
      rw [show sc_w xst b m = pl_wt (b m) from if_neg z'] at this
      exact this
  exact ⟨_, L n 0 0 xco (by omega) (by omega) ⟨fun j hj => absurd hj (by omega), fun j hj => absurd hj (by omega), Or.inr ⟨rfl, fun j hj => absurd hj (by omega)⟩⟩⟩
/-! .. and what it is in the document's words -/
theorem pl_L_IS {f j : Nat} (hF : pl_Fmt b n) (hf : f < pl_nf b) (hJ : ∀ i, pl_IS b f i → pl_jok b f i) (hL : pl_L b f j) (hj : j < pl_e b f) : pl_IS b f j := by
  rcases hL with rfl | ⟨i, hi, h | h | h⟩
  · exact pl_IS0 (hF.2.2.2.2.1 f hf).2.2.1
  · obtain ⟨t, e, _, it⟩ := hJ i hi h.1
    have : j = t := by have := h.2; omega
    subst this
    exact it
  · obtain ⟨c1, c2, rfl⟩ := h
    have e : pl_sz (b i) = 2 := pl_sz2.mpr (by omega)
    have := pl_ISn hi (by omega)
    rw [e] at this
    exact this
  · obtain ⟨c1, rfl⟩ := h
    have e : pl_sz (b i) = 1 := pl_sz1.mpr (by omega)
    have := pl_ISn hi (by omega)
    rw [e] at this
    exact this
theorem pl_hdr {f g j : Nat} (h1 : pl_hd b g ≤ j) (h2 : j < pl_hd b g + 3) (h3 : pl_s b f ≤ j) (h4 : j < pl_e b f) : False := by
  have e1 : pl_s b f = pl_hd b f + 3 := rfl
  have e2 : pl_e b f = pl_hd b (f + 1) := rfl
  by_cases h : f < g
  · have := pl_hd_le b (f + 1) g (by omega)
    omega
  · have := pl_hd_le b g f (by omega)
    omega
theorem pl_mid {f i : Nat} (hi : pl_IS b f i) (h2 : pl_sz (b i) = 2) : ¬ pl_IS b f (i + 1) := by
  intro h
  obtain ⟨_, k, rfl⟩ := hi
  obtain ⟨m, hm, e⟩ := y_st (k := k + 1) h (by show _ < pl_sc b (pl_s b f) k + pl_sz _; omega)
  by_cases em : m = k
  · subst em; omega
  · have := pl_sc_lt b (pl_s b f) m k (by omega)
    omega
theorem sc_C {f i : Nat} {st bg : Nat → Int32} (hn : n ≤ 120) (hF : pl_Fmt b n) (hT : pl_ST b (pl_nf b) 0 st) (hG : mb_G b bg) (hC : vd_B b) (hJ : vd_J b) (hf : f < pl_nf b) :
    ∀ d i, pl_e b f - i ≤ d → pl_IS b f i → sc_T st bg b n (i + 1) = pl_T b f (i + pl_sz (b i)) := by
  have he := pl_ef hF hf
  have nst : ∀ j, j < 120 → (∀ g, g < pl_nf b → ¬ pl_IS b g j) → st j = 0 := by
    intro j hj h
    by_cases z : st j = 0
    · exact z
    · rcases (hT j hj).mp z with ⟨g, hg, hI⟩ | ⟨_, h'⟩
      · exact absurd hI (h g hg)
      · omega
  have nbg : ∀ j, j < 120 → (∀ g, g < pl_nf b → ¬ pl_IS b g j) → bg j = 0 := by
    intro j hj h
    by_cases z : bg j = 0
    · exact z
    · obtain ⟨g, hg, h1, h2, h3⟩ := (hG j hj).mp z
      exact absurd (pl_L_IS hF hg (hJ g hg) h3 h2) (h g hg)
  have zero : ∀ j, j < n → (∀ g, g < pl_nf b → ¬ pl_IS b g j) → sc_T st bg b n j = sc_T st bg b n (j + 1) := by
    intro j hj h
    rw [sc_T0 hj (nbg j (by omega) h), show sc_w st b j = 0 from if_pos (nst j (by omega) h), Nat.zero_add]
  have tend : sc_T st bg b n (pl_e b f) = 0 := by
    by_cases e : f + 1 = pl_nf b
    · refine sc_Tn ?_
      have := hF.2.2.2.2.2
      rw [pl_e_hd, e]
      omega
    · have h1 := pl_ef hF (f := f + 1) (by omega)
      have h2 := pl_hf hF (f := f + 1) (by omega)
      have e1 : pl_e b f = pl_hd b (f + 1) := rfl
      have hd : ∀ j, pl_hd b (f + 1) ≤ j → j < pl_hd b (f + 1) + 3 → ∀ g, g < pl_nf b → ¬ pl_IS b g j := fun j q1 q2 g _ hI => pl_hdr q1 q2 (pl_ISge hI) hI.1
      rw [e1, zero _ (by omega) (hd _ (by omega) (by omega)), zero _ (by omega) (hd _ (by omega) (by omega)), zero _ (by omega) (hd _ (by omega) (by omega))]
      refine sc_T1 ((hG _ (by omega)).mpr ⟨f + 1, by omega, Nat.le_refl _, h2, Or.inl rfl⟩)
  intro d
  induction d with
  | zero =>
    intro i hd hI
    have := hI.1
    omega
  | succ d ih =>
    intro i hd hI
    have la := hI.1
    have sa := pl_ISge hI
    have nx := pl_nx (hC f hf i hI) la
    have szp := pl_sz_pos (b i)
    have e1 : sc_T st bg b n (i + 1) = sc_T st bg b n (i + pl_sz (b i)) := by
      by_cases e : pl_sz (b i) = 2
      · rw [e]
        refine zero (i + 1) (by omega) fun g hg h => ?_
        have := pl_apart (f := f) (g := g) (i := i + 1) (by omega) (by omega) (pl_ISge h) h.1
        subst this
        exact pl_mid hI e h
      · rw [show pl_sz (b i) = 1 by omega]
    rw [e1]
    by_cases e : i + pl_sz (b i) = pl_e b f
    · rw [e, tend, pl_T_end (Nat.le_refl _)]
    · have hN := pl_ISn hI (by omega)
      generalize ej : i + pl_sz (b i) = j at *
      have lj := hN.1
      have sj := pl_ISge hN
      by_cases hL : pl_L b f j
      · rw [sc_T1 ((hG j (by omega)).mpr ⟨f, hf, sj, lj, hL⟩), pl_T_L hL]
      · have bz : bg j = 0 := by
          by_cases z : bg j = 0
          · exact z
          · obtain ⟨g, hg, h1, h2, h3⟩ := (hG j (by omega)).mp z
            have := pl_apart sj lj h1 h2
            subst this
            exact absurd h3 hL
        rw [sc_T0 (by omega) bz, show sc_w st b j = pl_wt (b j) from if_neg ((st_f hT hf sj lj (by omega)).mpr hN), ih j (by omega) hN, pl_T_n lj hL]
end C6
end
section
section C7
variable {n : Nat} {b b' : Nat → Nat}
/-! a plugin's bytes beyond its length don't count -/
theorem cg_1 (hF : pl_Fmt b n) (ha : ∀ i, i < n → b' i = b i) : b' 1 = b 1 := by
  have h1 := pl_hd_le b 0 (pl_nf b) (by omega)
  have h2 := hF.2.2.2.2.2
  have h3 : pl_hd b 0 = 3 + 3 * b 1 := rfl
  exact ha 1 (by omega)
theorem cg_nf (hF : pl_Fmt b n) (ha : ∀ i, i < n → b' i = b i) : pl_nf b' = pl_nf b := by
  have h1 := pl_hd_le b 0 (pl_nf b) (by omega)
  have h2 := hF.2.2.2.2.2
  have h3 : pl_hd b 0 = 3 + 3 * b 1 := rfl
  unfold pl_nf at *
  rw [cg_1 hF ha]
  exact ha _ (by omega)
theorem cg_hd (hF : pl_Fmt b n) (ha : ∀ i, i < n → b' i = b i) : ∀ f, f ≤ pl_nf b → pl_hd b' f = pl_hd b f := by
  intro f
  induction f with
  | zero => intro _; show 3 + 3 * b' 1 = 3 + 3 * b 1; rw [cg_1 hF ha]
  | succ f ih =>
    intro hf
    have h1 := pl_hf hF (f := f) (by omega)
    have h2 := pl_ef hF (f := f) (by omega)
    show pl_hd b' f + 3 + b' (pl_hd b' f + 2) = pl_hd b f + 3 + b (pl_hd b f + 2)
    rw [ih (by omega), ha _ (by omega)]
theorem cg_s (hF : pl_Fmt b n) (ha : ∀ i, i < n → b' i = b i) {f : Nat} (hf : f < pl_nf b) : pl_s b' f = pl_s b f := by
  unfold pl_s; rw [cg_hd hF ha f (by omega)]
theorem cg_e (hF : pl_Fmt b n) (ha : ∀ i, i < n → b' i = b i) {f : Nat} (hf : f < pl_nf b) : pl_e b' f = pl_e b f := by
  rw [pl_e_hd, pl_e_hd, cg_hd hF ha (f + 1) (by omega)]
theorem cg_sc {e s : Nat} (ha : ∀ i, i < e → b' i = b i) : ∀ k, (∀ m, m < k → pl_sc b s m < e) → pl_sc b' s k = pl_sc b s k := by
  intro k
  induction k with
  | zero => intro _; rfl
  | succ k ih =>
    intro h
    show pl_sc b' s k + pl_sz (b' (pl_sc b' s k)) = pl_sc b s k + pl_sz (b (pl_sc b s k))
    rw [ih fun m hm => h m (by omega), ha _ (h k (by omega))]
theorem cg_IS (hF : pl_Fmt b n) (ha : ∀ i, i < n → b' i = b i) {f i : Nat} (hf : f < pl_nf b) : pl_IS b' f i ↔ pl_IS b f i := by
  have he := pl_ef hF hf
  unfold pl_IS
  rw [cg_e hF ha hf, cg_s hF ha hf]
  constructor
  · rintro ⟨h1, k, rfl⟩
    refine ⟨h1, k, ?_⟩
    exact cg_sc (b := b') (b' := b) (e := pl_e b f) (fun i hi => (ha i (by omega)).symm) k fun m hm => by have := pl_sc_lt b' (pl_s b f) m k hm; omega
  · rintro ⟨h1, k, rfl⟩
    refine ⟨h1, k, ?_⟩
    exact cg_sc (e := pl_e b f) (fun i hi => ha i (by omega)) k fun m hm => by have := pl_sc_lt b (pl_s b f) m k hm; omega
theorem cg_li (hF : pl_Fmt b n) (ha : ∀ i, i < n → b' i = b i) {f c : Nat} (hf : f < pl_nf b) : pl_li b' f c = pl_li b f c := by
  have h1 := pl_hf hF hf
  have h2 := pl_ef hF hf
  unfold pl_li
  rw [cg_hd hF ha f (by omega), cg_nf hF ha, cg_1 hF ha, ha (pl_hd b f) (by omega), ha (pl_hd b f + 1) (by omega)]
theorem cg_bad (hF : pl_Fmt b n) (ha : ∀ i, i < n → b' i = b i) {f i : Nat} (hf : f < pl_nf b) (hi : i < pl_e b f) (h : ¬ pl_bad b f i) : ¬ pl_bad b' f i := by
  have h2 := pl_ef hF hf
  unfold pl_bad
  rw [cg_e hF ha hf, ha i (by omega), cg_li hF ha hf]
  intro z
  by_cases e : pl_e b f ≤ i + 1
  · unfold pl_bad at h
    omega
  · rw [ha (i + 1) (by omega)] at z
    exact h z
theorem cg_tg (hF : pl_Fmt b n) (ha : ∀ i, i < n → b' i = b i) {f i : Nat} (hf : f < pl_nf b) (h : ¬ pl_bad b f i) (hj : b i = 10 ∨ b i = 11) : pl_tg b' i = pl_tg b i := by
  have h2 := pl_ef hF hf
  have := pl_wide h (pl_sz2.mpr (by omega))
  unfold pl_tg
  rw [ha (i + 1) (by omega)]
theorem cg_tk (hF : pl_Fmt b n) (ha : ∀ i, i < n → b' i = b i) {f i : Nat} (hf : f < pl_nf b) (hi : i < pl_e b f) (h : ¬ pl_bad b f i) : pl_tk b' i = pl_tk b i := by
  have h2 := pl_ef hF hf
  unfold pl_tk
  rw [ha i (by omega)]
  by_cases e : b i = 12
  · have g := pl_call h e
    have w := pl_wide h (pl_sz2.mpr (by omega))
    have g1 := pl_hf hF g
    have g2 := pl_ef hF g
    rw [if_pos e, if_pos e, ha (i + 1) (by omega), cg_hd hF ha _ (by omega), ha _ (by omega)]
  · rw [if_neg e, if_neg e]
theorem cg_L (hF : pl_Fmt b n) (ha : ∀ i, i < n → b' i = b i) {f j : Nat} (hf : f < pl_nf b) (hB : ∀ i, pl_IS b f i → ¬ pl_bad b f i) : pl_L b' f j ↔ pl_L b f j := by
  have h2 := pl_ef hF hf
  unfold pl_L
  rw [cg_s hF ha hf]
  constructor
  · rintro (h | ⟨i, hi, h⟩)
    · exact Or.inl h
    · have hi' := (cg_IS hF ha hf).mp hi
      have hl := hi'.1
      rw [ha i (by omega)] at h
      refine Or.inr ⟨i, hi', ?_⟩
      rcases h with ⟨c, e⟩ | h
      · exact Or.inl ⟨c, by rw [← cg_tg hF ha hf (hB i hi') c]; exact e⟩
      · exact Or.inr h
  · rintro (h | ⟨i, hi, h⟩)
    · exact Or.inl h
    · have hl := hi.1
      refine Or.inr ⟨i, (cg_IS hF ha hf).mpr hi, ?_⟩
      rw [ha i (by omega)]
      rcases h with ⟨c, e⟩ | h
      · exact Or.inl ⟨c, by rw [cg_tg hF ha hf (hB i hi) c]; exact e⟩
      · exact Or.inr h
theorem cg_T (hF : pl_Fmt b n) (ha : ∀ i, i < n → b' i = b i) {f : Nat} (hf : f < pl_nf b) (hB : ∀ i, pl_IS b f i → ¬ pl_bad b f i) : ∀ d i, pl_e b f - i ≤ d → pl_T b' f i = pl_T b f i := by
  have h2 := pl_ef hF hf
  intro d
  induction d with
  | zero =>
    intro i hi
    rw [pl_T_end (show pl_e b f ≤ i by omega), pl_T_end (show pl_e b' f ≤ i by rw [cg_e hF ha hf]; omega)]
  | succ d ih =>
    intro i hi
    by_cases e : pl_e b f ≤ i
    · rw [pl_T_end e, pl_T_end (show pl_e b' f ≤ i by rw [cg_e hF ha hf]; omega)]
    · by_cases hL : pl_L b f i
      · rw [pl_T_L hL, pl_T_L ((cg_L hF ha hf hB).mpr hL)]
      · have := pl_sz_pos (b i)
        rw [pl_T_n (by omega) hL, pl_T_n (by rw [cg_e hF ha hf]; omega) (fun z => hL ((cg_L hF ha hf hB).mp z)), ha i (by omega), ih _ (by omega)]
theorem cg_C (hF : pl_Fmt b n) (ha : ∀ i, i < n → b' i = b i) {f i : Nat} (hf : f < pl_nf b) (hB : ∀ i, pl_IS b f i → ¬ pl_bad b f i) (hi : i < pl_e b f) : pl_C b' f i = pl_C b f i := by
  have h2 := pl_ef hF hf
  by_cases hL : pl_L b f i
  · rw [pl_C_L hL, pl_C_L ((cg_L hF ha hf hB).mpr hL), ha i (by omega), cg_T hF ha hf hB _ _ (Nat.le_refl _)]
  · rw [pl_C_n hL, pl_C_n (fun z => hL ((cg_L hF ha hf hB).mp z))]
theorem cg_WF (hW : pl_WF b n) (ha : ∀ i, i < n → b' i = b i) : pl_WF b' n := by
  obtain ⟨hn, hF, hf⟩ := hW
  have h0 := hF.2.2.2.2.2
  have e1 := cg_1 hF ha
  have e2 := cg_nf hF ha
  have hd0 := pl_hd_le b 0 (pl_nf b) (by omega)
  have hd0' : pl_hd b 0 = 3 + 3 * b 1 := rfl
  refine ⟨hn, ⟨by rw [e1]; exact hF.1, fun i hi => ?_, by rw [e2]; exact hF.2.2.1, by rw [e2]; exact hF.2.2.2.1, fun f hf' => ?_, by rw [e2, cg_hd hF ha _ (Nat.le_refl _)]; exact h0⟩, fun f hf' => ?_⟩
  · rw [e1] at hi
    rw [ha _ (by omega)]
    exact hF.2.1 i hi
  · rw [e2] at hf'
    have g1 := pl_hf hF hf'
    have g2 := pl_ef hF hf'
    rw [cg_hd hF ha f (by omega), ha _ (by omega), ha _ (by omega), ha _ (by omega)]
    exact hF.2.2.2.2.1 f hf'
  · rw [e2] at hf'
    obtain ⟨hB, hJ, R, hG⟩ := hf f hf'
    have g2 := pl_ef hF hf'
    refine ⟨fun i hi => ?_, fun i hi => ?_, fun i h => R i h ∧ pl_IS b f i, ?_⟩
    · have hi' := (cg_IS hF ha hf').mp hi
      exact cg_bad hF ha hf' hi'.1 (hB i hi')
    · have hi' := (cg_IS hF ha hf').mp hi
      have hl := hi'.1
      intro c
      rw [ha i (by omega)] at c
      obtain ⟨j, q1, q2, q3⟩ := hJ i hi' c
      exact ⟨j, by rw [cg_tg hF ha hf' (hB i hi') c]; exact q1, by rw [cg_s hF ha hf']; exact q2, (cg_IS hF ha hf').mpr q3⟩
    · refine ⟨⟨by rw [cg_s hF ha hf']; exact hG.1, by rw [cg_s hF ha hf']; exact pl_IS0 (hF.2.2.2.2.1 f hf').2.2.1⟩, fun i h h' q q' => hG.2.1 i h h' q.1 q'.1, fun i h q => ?_⟩
      have hl := q.2.1
      obtain ⟨p1, p2, p3, p4⟩ := hG.2.2 i h q.1
      rw [cg_tk hF ha hf' hl (hB i q.2), ha i (by omega), cg_e hF ha hf', cg_s hF ha hf']
      refine ⟨p1, p2, fun c => ?_, fun c1 c2 => ⟨(p4 c1 c2).1, (p4 c1 c2).2, pl_ISn q.2 (p4 c1 c2).1⟩⟩
      obtain ⟨j, r1, r2, r3, r4⟩ := p3 c
      obtain ⟨j', s1, s2, s3⟩ := hJ i q.2 c
      have : j = j' := by omega
      subst this
      exact ⟨j, by rw [cg_tg hF ha hf' (hB i q.2) c]; exact r1, r2, r3, r4, s3⟩
end C7
end
section
section C8
variable {r n : Nat} {pt M b : Nat → Nat} {xrc xbc xfc xrn xra xfi xfp xgn xac xlr : Int32} {xhm : Int64} {xrp xrA xrB xrC xby xhd xst xbg xco xen xre xld xim xic xih xif xop xbp xbq xsc xna xhe xlo xsk : Nat → Int32} {yru ypl ynu yps yfi yac yre : Int32} {yme : Int64} {yrp yrq yrl yby yle ypr ywa ybp ybq ybo ysc yfn yat yhi ylo yen : Nat → Int32}
def cp_f (g : Nat → Int32) (base : Nat) (src : Nat → Int32) : Nat → (Nat → Int32)
  | 0 => g
  | k + 1 => upd (cp_f g base src k) (base + k) (src k)
theorem cp_out {g src : Nat → Int32} {base j : Nat} : ∀ m, (j < base ∨ base + m ≤ j) → cp_f g base src m j = g j := by
  intro m
  induction m with
  | zero => intro _; rfl
  | succ m ih =>
    intro h
    show upd (cp_f g base src m) (base + m) (src m) j = g j
    rw [pk_un (by omega), ih (by omega)]
theorem cp_in {g src : Nat → Int32} {base k : Nat} : ∀ m, k < m → cp_f g base src m (base + k) = src k := by
  intro m
  induction m with
  | zero => intro h; omega
  | succ m ih =>
    intro h
    show upd (cp_f g base src m) (base + m) (src m) (base + k) = src k
    by_cases e : k = m
    · subst e; exact pk_us
    · rw [pk_un (by omega), ih (by omega)]
theorem x_keep {post : SX → Prop} {p fc : Nat} (hp : p < 3) (hn : n ≤ 120) (hfc : fc ≤ 4)
    (k : post (xrc, nI n, nI fc, xrn, xra, xfi, xfp, xgn, xac, xlr, xhm, xrp, xrA, xrB, xrC, xby, xhd, xst, xbg, xco, xen, xre, upd xld p 1, cp_f xim (p * 120) xby n, cp_f xic (p * 120) xco n, cp_f xih (p * 4) (fun f => nI (p * 120) + xhd f) fc, upd xif p (nI fc), xop, xbp, xbq, xsc, xna, xhe, xlo, xsk)) : wpX_keep post (xrc, nI n, nI fc, xrn, xra, xfi, xfp, xgn, xac, xlr, xhm, xrp, xrA, xrB, xrC, xby, xhd, xst, xbg, xco, xen, xre, xld, xim, xic, xih, xif, xop, xbp, xbq, xsc, xna, xhe, xlo, xsk) (nI p) := by
  unfold wpX_keep
  dsimp only
  refine nm_r (show _ = nI (p * 120) from pk_mul p 120) ⟨n + 1, ?_⟩
  have L2 : ∀ d f, f + d = fc → wX_keep_51 post (nI p) (nI (p * 120)) xrc (nI n) (nI fc) xrn xra xfi xfp xgn xac xlr xhm (d + 1) (nI f) xrp xrA xrB xrC xby xhd xst xbg xco xen xre xld (cp_f xim (p * 120) xby n) (cp_f xic (p * 120) xco n) (cp_f xih (p * 4) (fun f => nI (p * 120) + xhd f) f) xif xop xbp xbq xsc xna xhe xlo xsk := by
    intro d
    induction d with
    | zero =>
      intro f hf
      have : f = fc := by omega
      subst this
      refine br_t (nI_le (Nat.le_refl _) (by omega)) ⟨vp_in_nI hp (by omega), nm_r (show _ = upd xif p (nI f) by rw [nI_clamp (by omega)]) ⟨vp_in_nI hp (by omega), nm_r (show _ = upd xld p 1 by rw [nI_clamp (by omega), ba_vb1]) k⟩⟩
    | succ d ih =>
      intro f hf
      have e : nI p * 4 + nI f = nI (p * 4 + f) := by rw [show nI p * 4 = nI (p * 4) from pk_mul p 4, nI_add]
      refine br_f (nI_ge (by omega) (by omega)) ⟨vp_in_nI (by omega) (by omega), by rw [e]; exact vp_in_nI (by omega) (by omega), nm_r ?_ (nm_r (nI_1 f) (ih (f + 1) (by omega)))⟩
      rw [e, nI_clamp (by omega), nI_clamp (by omega)]
      rfl
  have L1 : ∀ d i, i + d = n → wX_keep_7 post (nI p) (nI (p * 120)) xrc (nI n) (nI fc) xrn xra xfi xfp xgn xac xlr xhm (d + 1) (nI i) xrp xrA xrB xrC xby xhd xst xbg xco xen xre xld (cp_f xim (p * 120) xby i) (cp_f xic (p * 120) xco i) xih xif xop xbp xbq xsc xna xhe xlo xsk := by
    intro d
    induction d with
    | zero =>
      intro i hi
      have : i = n := by omega
      subst this
      exact br_t (nI_le (Nat.le_refl _) (by omega)) ⟨_, L2 fc 0 (by omega)⟩
    | succ d ih =>
      intro i hi
      have e : nI (p * 120) + nI i = nI (p * 120 + i) := nI_add _ _
      have V : vp_in (nI (p * 120) + nI i) 360 := by rw [e]; exact vp_in_nI (by omega) (by omega)
      refine br_f (nI_ge (by omega) (by omega)) ⟨vp_in_nI (by omega) (by omega), V, nm_r ?_ ⟨vp_in_nI (by omega) (by omega), V, nm_r ?_ (nm_r (nI_1 i) (ih (i + 1) (by omega)))⟩⟩
      · rw [e, nI_clamp (by omega), nI_clamp (by omega)]
        rfl
      · rw [e, nI_clamp (by omega), nI_clamp (by omega)]
        rfl
  exact L1 n 0 (by omega)
theorem x_admit {post : SX → Prop} {j : Nat} (hW : pl_WF b n) (h0 : ∀ f, f < pl_nf b → xhd f = nI (pl_hd b f)) (hb : ∀ i, i < 120 → xby i = nI (b i)) (hv : ∀ i, b i < 256) (hT : pl_ST b (pl_nf b) 0 xst)
    (hj : j ≤ 3) (h1 : ∀ x, x < j → ¬ xld x = 0) (h2 : j < 3 → xld j = 0)
    (k3 : j = 3 → post (xrc, nI n, nI (pl_nf b), xrn, xra, 8, xfp, xgn, xac, xlr, xhm, xrp, xrA, xrB, xrC, xby, xhd, xst, xbg, xco, xen, xre, xld, xim, xic, xih, xif, xop, xbp, xbq, xsc, xna, xhe, xlo, xsk))
    (k : j < 3 → ∀ xbg xco : Nat → Int32, (∀ f, f < pl_nf b → ∀ i, pl_IS b f i → xco i = nI (pl_C b f i)) → post (xrc, 0, nI (pl_nf b), xrn, xra, xfi, xfp, nI j, xac, xlr, xhm, xrp, xrA, xrB, xrC, xby, xhd, xst, xbg, xco, xen, xre, upd xld j 1, cp_f xim (j * 120) xby n, cp_f xic (j * 120) xco n, cp_f xih (j * 4) (fun f => nI (j * 120) + xhd f) (pl_nf b), upd xif j (nI (pl_nf b)), xop, xbp, xbq, xsc, xna, xhe, xlo, xsk)) :
    wpX_admit post (xrc, nI n, nI (pl_nf b), xrn, xra, xfi, xfp, xgn, xac, xlr, xhm, xrp, xrA, xrB, xrC, xby, xhd, xst, xbg, xco, xen, xre, xld, xim, xic, xih, xif, xop, xbp, xbq, xsc, xna, xhe, xlo, xsk) := by
  obtain ⟨hn, hF, hff⟩ := hW
  have hB : vd_B b := fun f hf => (hff f hf).1
  have hJ : vd_J b := fun f hf => (hff f hf).2.1
  have h4 := hF.2.2.2.1
  -- the tail, once the number is known
  have G : j < 3 → wX_admit_4 post xrc (nI n) (nI (pl_nf b)) xrn xra xfi xfp xgn xac xlr xhm xrp xrA xrB xrC xby xhd xst xbg xco xen xre xld xim xic xih xif xop xbp xbq xsc xna xhe xlo xsk 1 (nI j) (-1) := by
    intro hj3
    refine br_t ba_m1lt (br_f (ba_m1ne (by omega)) ?_)
    refine x_marks (b := b) hn hF h0 hb hv hT hB hJ fun xbg hG => ?_
    refine x_sums (b := b) hn hb hv (fun m hm z1 z2 q => ?_) fun xco c1 c2 => ?_
    · rcases (hT m (by omega)).mp z1 with ⟨f, hf, hI⟩ | ⟨_, h'⟩
      · have sa := pl_ISge hI
        have la := hI.1
        have sf := pl_sf hF hf
        have he := pl_ef hF hf
        have bs : ¬ xbg (pl_s b f) = 0 := (hG _ (by omega)).mpr ⟨f, hf, Nat.le_refl _, sf, Or.inl rfl⟩
        by_cases e : pl_s b f = m
        · rw [e] at bs; exact bs z2
        · exact bs (q _ (by omega))
      · omega
    · refine x_keep hj3 hn h4 ?_
      refine k hj3 xbg xco fun f hf i hI => ?_
      have sa := pl_ISge hI
      have la := hI.1
      have he := pl_ef hF hf
      by_cases hL : pl_L b f i
      · rw [c2 i (by omega) ((hG i (by omega)).mpr ⟨f, hf, sa, la, hL⟩), pl_C_L hL, sc_C (f := f) (i := i) hn hF hT hG hB hJ hf _ i (Nat.le_refl _) hI, show sc_w xst b i = pl_wt (b i) from if_neg ((st_f hT hf sa la (by omega)).mpr hI)]
      · rw [pl_C_n hL]
        refine c1 i (by omega) ?_
        by_cases z : xbg i = 0
        · exact z
        · obtain ⟨g, hg, q1, q2, q3⟩ := (hG i (by omega)).mp z
          have := pl_apart sa la q1 q2
          subst this
          exact absurd q3 hL
  have N : j = 3 → wX_admit_4 post xrc (nI n) (nI (pl_nf b)) xrn xra xfi xfp xgn xac xlr xhm xrp xrA xrB xrC xby xhd xst xbg xco xen xre xld xim xic xih xif xop xbp xbq xsc xna xhe xlo xsk 1 (-1) (-1) := fun e => br_t ba_m1lt (br_t rfl (k3 e))
  have c0 : (0 : Int32).toNatClampNeg = 0 := by decide
  have c1 : (1 : Int32).toNatClampNeg = 1 := by decide
  have c2 : (2 : Int32).toNatClampNeg = 2 := by decide
  have v0 : vp_in (0 : Int32) 3 := vp_in_nI (n := 0) (by omega) (by omega)
  have v1 : vp_in (1 : Int32) 3 := vp_in_nI (n := 1) (by omega) (by omega)
  have v2 : vp_in (2 : Int32) 3 := vp_in_nI (n := 2) (by omega) (by omega)
  have m0 : (0 : Int32) + (-1) = -1 := by decide
  have m1 : (1 : Int32) + (-1) = 0 := by decide
  have m2 : (2 : Int32) + (-1) = 1 := by decide
  have S0 : ∀ x1 : Int32, (xld 0 = 0 → wX_admit_4 post xrc (nI n) (nI (pl_nf b)) xrn xra xfi xfp xgn xac xlr xhm xrp xrA xrB xrC xby xhd xst xbg xco xen xre xld xim xic xih xif xop xbp xbq xsc xna xhe xlo xsk 1 0 (-1)) → (¬ xld 0 = 0 → wX_admit_4 post xrc (nI n) (nI (pl_nf b)) xrn xra xfi xfp xgn xac xlr xhm xrp xrA xrB xrC xby xhd xst xbg xco xen xre xld xim xic xih xif xop xbp xbq xsc xna xhe xlo xsk 1 x1 (-1)) → wX_admit_4 post xrc (nI n) (nI (pl_nf b)) xrn xra xfi xfp xgn xac xlr xhm xrp xrA xrB xrC xby xhd xst xbg xco xen xre xld xim xic xih xif xop xbp xbq xsc xna xhe xlo xsk 2 x1 0 := by
    intro x1 a1 a2
    unfold wX_admit_4
    rw [c0]
    exact br_f (by decide) ⟨v0, br_c (fun z => nm_r m0 (a1 z)) fun z => nm_r m0 (a2 z)⟩
  have S1 : ∀ x1 : Int32, (xld 1 = 0 → wX_admit_4 post xrc (nI n) (nI (pl_nf b)) xrn xra xfi xfp xgn xac xlr xhm xrp xrA xrB xrC xby xhd xst xbg xco xen xre xld xim xic xih xif xop xbp xbq xsc xna xhe xlo xsk 2 1 0) → (¬ xld 1 = 0 → wX_admit_4 post xrc (nI n) (nI (pl_nf b)) xrn xra xfi xfp xgn xac xlr xhm xrp xrA xrB xrC xby xhd xst xbg xco xen xre xld xim xic xih xif xop xbp xbq xsc xna xhe xlo xsk 2 x1 0) → wX_admit_4 post xrc (nI n) (nI (pl_nf b)) xrn xra xfi xfp xgn xac xlr xhm xrp xrA xrB xrC xby xhd xst xbg xco xen xre xld xim xic xih xif xop xbp xbq xsc xna xhe xlo xsk 3 x1 1 := by
    intro x1 a1 a2
    unfold wX_admit_4
    rw [c1]
    exact br_f (by decide) ⟨v1, br_c (fun z => nm_r m1 (a1 z)) fun z => nm_r m1 (a2 z)⟩
  have S2 : ∀ x1 : Int32, (xld 2 = 0 → wX_admit_4 post xrc (nI n) (nI (pl_nf b)) xrn xra xfi xfp xgn xac xlr xhm xrp xrA xrB xrC xby xhd xst xbg xco xen xre xld xim xic xih xif xop xbp xbq xsc xna xhe xlo xsk 3 2 1) → (¬ xld 2 = 0 → wX_admit_4 post xrc (nI n) (nI (pl_nf b)) xrn xra xfi xfp xgn xac xlr xhm xrp xrA xrB xrC xby xhd xst xbg xco xen xre xld xim xic xih xif xop xbp xbq xsc xna xhe xlo xsk 3 x1 1) → wX_admit_4 post xrc (nI n) (nI (pl_nf b)) xrn xra xfi xfp xgn xac xlr xhm xrp xrA xrB xrC xby xhd xst xbg xco xen xre xld xim xic xih xif xop xbp xbq xsc xna xhe xlo xsk 4 x1 2 := by
    intro x1 a1 a2
    unfold wX_admit_4
    rw [c2]
    exact br_f (by decide) ⟨v2, br_c (fun z => nm_r m2 (a1 z)) fun z => nm_r m2 (a2 z)⟩
  have J0 : xld 0 = 0 → wX_admit_4 post xrc (nI n) (nI (pl_nf b)) xrn xra xfi xfp xgn xac xlr xhm xrp xrA xrB xrC xby xhd xst xbg xco xen xre xld xim xic xih xif xop xbp xbq xsc xna xhe xlo xsk 1 0 (-1) := by
    intro z
    have : j = 0 := by
      by_cases e : j = 0
      · exact e
      · exact absurd z (h1 0 (by omega))
    subst this
    exact G (by omega)
  have J1 : ¬ xld 0 = 0 → xld 1 = 0 → wX_admit_4 post xrc (nI n) (nI (pl_nf b)) xrn xra xfi xfp xgn xac xlr xhm xrp xrA xrB xrC xby xhd xst xbg xco xen xre xld xim xic xih xif xop xbp xbq xsc xna xhe xlo xsk 1 1 (-1) := by
    intro z0 z
    have : j = 1 := by
      by_cases e : j = 0
      · subst e; exact absurd (h2 (by omega)) z0
      · by_cases e' : j = 1
        · exact e'
        · exact absurd z (h1 1 (by omega))
    subst this
    exact G (by omega)
  have J2 : ¬ xld 0 = 0 → ¬ xld 1 = 0 → xld 2 = 0 → wX_admit_4 post xrc (nI n) (nI (pl_nf b)) xrn xra xfi xfp xgn xac xlr xhm xrp xrA xrB xrC xby xhd xst xbg xco xen xre xld xim xic xih xif xop xbp xbq xsc xna xhe xlo xsk 1 2 (-1) := by
    intro z0 z1 z
    have : j = 2 := by
      by_cases e : j = 0
      · subst e; exact absurd (h2 (by omega)) z0
      · by_cases e' : j = 1
        · subst e'; exact absurd (h2 (by omega)) z1
        · by_cases e2 : j = 2
          · exact e2
          · exact absurd z (h1 2 (by omega))
    subst this
    exact G (by omega)
  have J3 : ¬ xld 0 = 0 → ¬ xld 1 = 0 → ¬ xld 2 = 0 → wX_admit_4 post xrc (nI n) (nI (pl_nf b)) xrn xra xfi xfp xgn xac xlr xhm xrp xrA xrB xrC xby xhd xst xbg xco xen xre xld xim xic xih xif xop xbp xbq xsc xna xhe xlo xsk 1 (-1) (-1) := by
    intro z0 z1 z
    refine N ?_
    by_cases e : j = 0
    · subst e; exact absurd (h2 (by omega)) z0
    · by_cases e' : j = 1
      · subst e'; exact absurd (h2 (by omega)) z1
      · by_cases e2 : j = 2
        · subst e2; exact absurd (h2 (by omega)) z
        · omega
  refine ⟨4, S2 _ (fun z2 => S1 _ (fun z1 => S0 _ J0 fun z0 => J1 z0 z1) fun z1 => S0 _ J0 fun z0 => J2 z0 z1 z2) fun z2 => S1 _ (fun z1 => S0 _ J0 fun z0 => J1 z0 z1) fun z1 => S0 _ J0 fun z0 => J3 z0 z1 z2⟩
def cm_f (M : Nat → Nat) (base : Nat) : Nat → (Nat → Nat)
  | 0 => M
  | k + 1 => um_f (cm_f M base k) (base + k) (M (360 + k))
theorem cm_out {M : Nat → Nat} {base j : Nat} : ∀ m, (j < base ∨ base + m ≤ j) → cm_f M base m j = M j := by
  intro m
  induction m with
  | zero => intro _; rfl
  | succ m ih =>
    intro h
    show um_f (cm_f M base m) (base + m) (M (360 + m)) j = M j
    rw [um_n (by omega), ih (by omega)]
theorem cm_in {M : Nat → Nat} {base k : Nat} : ∀ m, k < m → cm_f M base m (base + k) = M (360 + k) := by
  intro m
  induction m with
  | zero => intro h; omega
  | succ m ih =>
    intro h
    show um_f (cm_f M base m) (base + m) (M (360 + m)) (base + k) = M (360 + k)
    by_cases e : k = m
    · subst e; exact um_s
    · rw [um_n (by omega), ih (by omega)]
theorem cm_256 {M : Nat → Nat} {base : Nat} (h : ∀ i, M i < 256) : ∀ m i, cm_f M base m i < 256 := by
  intro m
  induction m with
  | zero => exact h
  | succ m ih =>
    intro i
    show um_f (cm_f M base m) (base + m) (M (360 + m)) i < 256
    by_cases e : i = base + m
    · rw [e, um_s]; exact h _
    · rw [um_n e]; exact ih i
theorem y_sub24 {post : Int32 → SY → Prop} {j : Nat} (hn : n ≤ 120) (hl : yle 3 = nI n) (hj : j ≤ 3) (h1 : ∀ x, x < j → ¬ ypr x = 0) (h2 : j < 3 → ypr j = 0)
    (k3 : j = 3 → post 8 (yru, ypl, ynu, yps, yfi, yac, yre, yme, yrp, yrq, yrl, fun i => nI (M i), yle, ypr, ywa, ybp, ybq, ybo, ysc, yfn, yat, yhi, ylo, yen)) (k : j < 3 → post 0 (yru, ypl, nI j, yps, yfi, yac, yre, yme, yrp, yrq, yrl, fun i => nI (cm_f M (j * 120) n i), upd yle 3 0, upd ypr j 1, ywa, ybp, ybq, ybo, ysc, yfn, yat, yhi, ylo, yen)) :
    ∃ m, wY_submit_24 post yru ypl ynu yps yfi yac yre yme yrp yrq yrl (fun i => nI (M i)) yle ypr ywa ybp ybq ybo ysc yfn yat yhi ylo yen m 0 := by
  have T : wY_submit_44 post (nI j) yru ypl ynu yps yfi yac yre yme yrp yrq yrl (fun i => nI (M i)) yle ypr ywa ybp ybq ybo ysc yfn yat yhi ylo yen := by
    by_cases e : j = 3
    · exact br_t (by rw [e]; rfl) (k3 e)
    · refine br_f (ba_ne (b := 3) (by omega) (by omega) e) ⟨n + 1, ?_⟩
      have L : ∀ d i, i + d = n → wY_submit_54 post (nI j) yru ypl ynu yps yfi yac yre yme (d + 1) (nI i) yrp yrq yrl (fun t => nI (cm_f M (j * 120) i t)) yle ypr ywa ybp ybq ybo ysc yfn yat yhi ylo yen := by
        intro d
        induction d with
        | zero =>
          intro i hi
          have : i = n := by omega
          subst this
          refine br_t (by rw [hl]; exact nI_le (Nat.le_refl _) (by omega)) ⟨vp_in_nI (by omega) (by omega), nm_r (show _ = upd ypr j 1 by rw [nI_clamp (by omega), ba_vb1]) (nm_e (k (by omega)))⟩
        | succ d ih =>
          intro i hi
          have e1 : (360 : Int32) + nI i = nI (360 + i) := nI_add 360 i
          have e2 : nI j * 120 + nI i = nI (j * 120 + i) := by rw [show nI j * 120 = nI (j * 120) from pk_mul j 120, nI_add]
          refine br_f (by rw [hl]; exact nI_ge (by omega) (by omega)) ⟨by rw [e1]; exact vp_in_nI (by omega) (by omega), by rw [e2]; exact vp_in_nI (by omega) (by omega), nm_r ?_ (nm_r (nI_1 i) (ih (i + 1) (by omega)))⟩
          dsimp only
          rw [e1, e2, nI_clamp (by omega), nI_clamp (by omega), um_upd, cm_out (j := 360 + i) i (by omega)]
          rfl
      exact L n 0 (by omega)
  have L : ∀ d x, x + d = j → wY_submit_24 post yru ypl ynu yps yfi yac yre yme yrp yrq yrl (fun i => nI (M i)) yle ypr ywa ybp ybq ybo ysc yfn yat yhi ylo yen (d + 1) (nI x) := by
    intro d
    induction d with
    | zero =>
      intro x hx
      have : x = j := by omega
      subst this
      refine pk_le 3 x (fun _ => T) fun h => ⟨vp_in_nI (by omega) (by omega), br_t ?_ T⟩
      rw [nI_clamp (by omega)]; exact h2 h
    | succ d ih =>
      intro x hx
      refine br_f (nI_ge (b := 3) (by omega) (by decide)) ⟨vp_in_nI (by omega) (by omega), br_f ?_ (nm_r (nI_1 x) (ih (x + 1) (by omega)))⟩
      rw [nI_clamp (by omega)]; exact h1 x (by omega)
  exact ⟨_, L j 0 (by omega)⟩
theorem i_vc_submit {k : Nat} {u : SX} {v : SY} (I : i_Rel k u v) (hk : k + 5 ≤ 2560) : wpX_submit (fun r u' => wpY_submit (fun r' v' => r' = r ∧ i_Rel (k + 5) u' v') v) u := by
  obtain ⟨r, n, pt, M, xfc, xrn, xra, xfi, xfp, xgn, xac, xlr, xhm, xrp, xrA, xrB, xrC, xby, xhd, xst, xbg, xco, xen, xre, xld, xim, xic, xih, xif, xop, xbp, xbq, xsc, xna, xhe, xlo, xsk, yps, yfi, yac, yrp, yrq, yrl, yle, ywa, yfn, yat, yhi, ylo, yen, rfl, rfl, h⟩ := I
  obtain ⟨hR, ⟨hn, hl, hM, hi, hb⟩, hP, hX⟩ := h
  have hb3 : ∀ i, i < 120 → xby i = nI (re_b M 3 i) := fun i h => by rw [hb i h, y_b3 (M := M) h]
  have hvb := y_hvb hM 3
  refine x_submit (b := re_b M 3) (pt := pt) hn hb3 hvb hR.1 (fun i hi => ⟨(hR.2 i hi).1, (hR.2 i hi).2.1⟩) (fun w pl hV hw xfc xrn xra xhd xst xen xre => ?_) fun hV hW xrn xra xhd xst xen xre h0 hT => ?_
  · unfold wpY_submit
    dsimp only
    refine y_checked (xrp := xrp) (xrA := xrA) (xrB := xrB) (xrC := xrC) hn hl hM hR (fun w' pl' hV' hw' yps ywa => br_t rfl ?_) fun hV' yps ywa => ?_
    · obtain ⟨rfl, rfl⟩ := vd_u de_u hV' hV
      exact ⟨rfl, re_mk ⟨hR, ⟨hn, hl, hM, hi, hb⟩, hP, hX⟩⟩
    · obtain ⟨rfl, rfl⟩ := vd_u de_u hV' hV
      exact absurd nI_0 hw
  · obtain ⟨j, hj, h1, h2⟩ := fi_rst 3 (fun x => xld x = 0)
    refine x_admit (b := re_b M 3) hW h0 hb3 hvb hT hj h1 h2 (fun e3 => ?_) fun hj3 xbg xco hco => ?_
    · unfold wpY_submit
      dsimp only
      refine y_checked (xrp := xrp) (xrA := xrA) (xrB := xrB) (xrC := xrC) hn hl hM hR (fun w' pl' hV' hw' yps ywa => ?_) fun hV' yps ywa => br_f ba_10 ?_
      · exact absurd (vd_u de_u hV' hV).1 hw'
      · exact y_sub24 hn hl hj h1 h2 (fun _ => ⟨rfl, re_mk ⟨hR, ⟨hn, hl, hM, hi, hb⟩, hP, hX⟩⟩) fun z => absurd z (by omega)
    · unfold wpY_submit
      dsimp only
      refine y_checked (xrp := xrp) (xrA := xrA) (xrB := xrB) (xrC := xrC) hn hl hM hR (fun w' pl' hV' hw' yps ywa => ?_) fun hV' yps ywa => br_f ba_10 ?_
      · exact absurd (vd_u de_u hV' hV).1 hw'
      · refine y_sub24 hn hl hj h1 h2 (fun z => absurd z (by omega)) fun _ => ⟨rfl, ?_⟩
        have h4 := hW.2.1.2.2.2.1
        have hag : ∀ i, i < n → re_b (cm_f M (j * 120) n) j i = re_b M 3 i := by
          intro i hin
          rw [re_bi (show i < 120 by omega), cm_in n hin, y_b3 (M := M) (show i < 120 by omega)]
        have hF := hW.2.1
        refine re_mk (n := 0) (M := cm_f M (j * 120) n) ⟨hR, ⟨by omega, pk_us, cm_256 hM n, fun i h3 => ?_, fun i h3 => ?_⟩, fun p hp hz => ?_, fun x hx hz => ?_⟩
        · by_cases e : j * 120 ≤ i ∧ i < j * 120 + n
          · obtain ⟨i', rfl⟩ : ∃ i', i = j * 120 + i' := ⟨i - j * 120, by omega⟩
            rw [cp_in n (by omega), cm_in n (by omega)]
            exact hb i' (by omega)
          · rw [cp_out n (by omega), cm_out n (by omega)]
            exact hi i h3
        · rw [cm_out n (by omega)]
          exact hb i h3
        · by_cases e : p = j
          · subst e
            have e2 := cg_nf hF hag
            refine ⟨⟨n, cg_WF hW hag⟩, by rw [pk_us, e2], fun f hf => ?_⟩
            rw [e2] at hf
            refine ⟨?_, fun i hI => ?_⟩
            · rw [cp_in _ hf, h0 f hf, nI_add, cg_hd hF hag f (by omega)]
            · have hI' := (cg_IS hF hag hf).mp hI
              have he := pl_ef hF hf
              have la := hI'.1
              rw [cp_in n (by omega), cg_C hF hag hf (hW.2.2 f hf).1 la]
              exact hco f hf i hI'
          · rw [pk_un e] at hz
            have eb : re_b (cm_f M (j * 120) n) p = re_b M p := re_bc fun i h3 => cm_out n (by omega)
            rw [eb]
            obtain ⟨⟨n', w1⟩, w2, w3⟩ := hP p hp hz
            refine ⟨⟨n', w1⟩, by rw [pk_un e]; exact w2, fun f hf => ?_⟩
            have w4 := w1.2.1.2.2.2.1
            refine ⟨?_, fun i hI => ?_⟩
            · rw [cp_out _ (by omega)]
              exact (w3 f hf).1
            · have he := pl_ef w1.2.1 hf
              have la := hI.1
              have w5 := w1.1
              rw [cp_out _ (by omega)]
              exact (w3 f hf).2 i hI
        · obtain ⟨p, q, g1, g2, g3, g4, g5⟩ := hX x hx hz
          refine ⟨p, q, g1, g2, g3, ?_, g5⟩
          by_cases e : p = j
          · subst e; rw [pk_us]; exact ba_10
          · rw [pk_un e]; exact g4
end C8
end
section
section D1
variable {r n : Nat} {pt M b : Nat → Nat} {xrc xbc xfc xrn xra xfi xfp xgn xac xlr : Int32} {xhm : Int64} {xrp xrA xrB xrC xby xhd xst xbg xco xen xre xld xim xic xih xif xop xbp xbq xsc xna xhe xlo xsk : Nat → Int32} {yru ypl ynu yps yfi yac yre : Int32} {yme : Int64} {yrp yrq yrl yby yle ypr ywa ybp ybq ybo ysc yfn yat yhi ylo yen : Nat → Int32}
/-! the component's machine, one instruction at a time: t the newest activation, h its height -/
theorem x_push {post : SX → Prop} {t h : Nat} {v : Int32} (ht : t < 6) (hh : xhe t = nI h) (h6 : h < 6) (k : post (xrc, xbc, xfc, xrn, xra, xfi, xfp, xgn, nI (t + 1), xlr, xhm, xrp, xrA, xrB, xrC, xby, xhd, xst, xbg, xco, xen, xre, xld, xim, xic, xih, xif, xop, xbp, xbq, xsc, xna, upd xhe t (nI (h + 1)), xlo, upd xsk (t * 6 + h) v)) : wpX_push post (xrc, xbc, xfc, xrn, xra, xfi, xfp, xgn, nI (t + 1), xlr, xhm, xrp, xrA, xrB, xrC, xby, xhd, xst, xbg, xco, xen, xre, xld, xim, xic, xih, xif, xop, xbp, xbq, xsc, xna, xhe, xlo, xsk) v := by
  have V : vp_in (nI t) 6 := vp_in_nI ht (by omega)
  have e : nI t * 6 + nI h = nI (t * 6 + h) := by rw [show nI t * 6 = nI (t * 6) from pk_mul t 6, nI_add]
  unfold wpX_push
  dsimp only
  refine nm_r (nI_pred t) ⟨V, ?_⟩
  rw [nI_clamp (by omega), hh]
  refine br_f (nI_ge (b := 6) h6 (by decide)) ⟨V, by rw [e]; exact vp_in_nI (by omega) (by omega), nm_r (by rw [e, nI_clamp (by omega)]) ⟨V, V, nm_r (by rw [nI_1]) k⟩⟩
theorem x_pop {post : Int32 → SX → Prop} {t h : Nat} (ht : t < 6) (hh : xhe t = nI (h + 1)) (h6 : h < 6) (k : post (xsk (t * 6 + h)) (xrc, xbc, xfc, xrn, xra, xfi, xfp, xgn, nI (t + 1), xlr, xhm, xrp, xrA, xrB, xrC, xby, xhd, xst, xbg, xco, xen, xre, xld, xim, xic, xih, xif, xop, xbp, xbq, xsc, xna, upd xhe t (nI h), xlo, xsk)) : wpX_pop post (xrc, xbc, xfc, xrn, xra, xfi, xfp, xgn, nI (t + 1), xlr, xhm, xrp, xrA, xrB, xrC, xby, xhd, xst, xbg, xco, xen, xre, xld, xim, xic, xih, xif, xop, xbp, xbq, xsc, xna, xhe, xlo, xsk) := by
  have V : vp_in (nI t) 6 := vp_in_nI ht (by omega)
  have e : nI t * 6 + nI h = nI (t * 6 + h) := by rw [show nI t * 6 = nI (t * 6) from pk_mul t 6, nI_add]
  unfold wpX_pop
  dsimp only
  refine nm_r (nI_pred t) ⟨V, ?_⟩
  rw [nI_clamp (by omega), hh, nI_pred]
  refine br_f (nI_ne0 (by omega) (by omega)) ⟨V, V, nm_e ⟨V, ?_⟩⟩
  rw [pk_us, e, nI_clamp (by omega)]
  exact ⟨vp_in_nI (by omega) (by omega), k⟩
/-- the arithmetic -/
def al_v (c : Nat) (f s : Int32) : Int32 := if c = 3 then f + s else if c = 4 then f - s else if c = 5 then f * s else if c = 6 then f / s else if s ≤ f then 0 else 1
theorem x_calc {post : Int32 → SX → Prop} {t h c : Nat} (ht : t < 6) (hc : 3 ≤ c ∧ c ≤ 7) (hh : xhe t = nI (h + 2)) (h6 : h < 5)
    (kd : c = 6 → xsk (t * 6 + (h + 1)) = 0 → post 2 (xrc, xbc, xfc, xrn, xra, xfi, xfp, xgn, nI (t + 1), xlr, xhm, xrp, xrA, xrB, xrC, xby, xhd, xst, xbg, xco, xen, xre, xld, xim, xic, xih, xif, xop, xbp, xbq, xsc, xna, upd (upd xhe t (nI (h + 1))) t (nI h), xlo, xsk))
    (k : ¬ (c = 6 ∧ xsk (t * 6 + (h + 1)) = 0) → ∀ v, v = al_v c (xsk (t * 6 + h)) (xsk (t * 6 + (h + 1))) → post (-1) (xrc, xbc, xfc, xrn, xra, xfi, xfp, xgn, nI (t + 1), xlr, xhm, xrp, xrA, xrB, xrC, xby, xhd, xst, xbg, xco, xen, xre, xld, xim, xic, xih, xif, xop, xbp, xbq, xsc, xna, upd (upd (upd xhe t (nI (h + 1))) t (nI h)) t (nI (h + 1)), xlo, upd xsk (t * 6 + h) v)) :
    wpX_calculate post (xrc, xbc, xfc, xrn, xra, xfi, xfp, xgn, nI (t + 1), xlr, xhm, xrp, xrA, xrB, xrC, xby, xhd, xst, xbg, xco, xen, xre, xld, xim, xic, xih, xif, xop, xbp, xbq, xsc, xna, xhe, xlo, xsk) (nI c) := by
  unfold wpX_calculate
  dsimp only
  refine x_pop ht hh (by omega) ?_
  refine x_pop ht (h := h) pk_us (by omega) ?_
  have F : ∀ v, post (-1) (xrc, xbc, xfc, xrn, xra, xfi, xfp, xgn, nI (t + 1), xlr, xhm, xrp, xrA, xrB, xrC, xby, xhd, xst, xbg, xco, xen, xre, xld, xim, xic, xih, xif, xop, xbp, xbq, xsc, xna, upd (upd (upd xhe t (nI (h + 1))) t (nI h)) t (nI (h + 1)), xlo, upd xsk (t * 6 + h) v) → wX_calculate_100 post v xrc xbc xfc xrn xra xfi xfp xgn (nI (t + 1)) xlr xhm xrp xrA xrB xrC xby xhd xst xbg xco xen xre xld xim xic xih xif xop xbp xbq xsc xna (upd (upd xhe t (nI (h + 1))) t (nI h)) xlo xsk := by
    intro v q
    exact x_push ht pk_us (by omega) q
  have G : ¬ (c = 6 ∧ xsk (t * 6 + (h + 1)) = 0) → wX_calculate_22 post (nI c) (xsk (t * 6 + (h + 1))) (xsk (t * 6 + h)) xrc xbc xfc xrn xra xfi xfp xgn (nI (t + 1)) xlr xhm xrp xrA xrB xrC xby xhd xst xbg xco xen xre xld xim xic xih xif xop xbp xbq xsc xna (upd (upd xhe t (nI (h + 1))) t (nI h)) xlo xsk := by
    intro nz
    rcases (show c = 3 ∨ c = 4 ∨ c = 5 ∨ c = 6 ∨ c = 7 by omega) with rfl | rfl | rfl | rfl | rfl
    · exact br_f (by decide) (br_f (by decide) (br_t (by decide) (nm_e (F _ (k nz _ rfl)))))
    · exact br_f (by decide) (br_f (by decide) (br_f (by decide) (br_t (by decide) (nm_e (F _ (k nz _ rfl))))))
    · exact br_f (by decide) (br_f (by decide) (br_f (by decide) (br_f (by decide) (br_t (by decide) (nm_e (F _ (k nz _ rfl)))))))
    · exact br_f (by decide) (br_f (by decide) (br_f (by decide) (br_f (by decide) (br_f (by decide) (br_t (by decide) ⟨fun z => nz ⟨rfl, z⟩, nm_e (F _ (k nz _ rfl))⟩)))))
    · refine br_f (by decide) (br_t (by decide) (br_c (fun z => F _ (k nz _ ?_)) fun z => F _ (k nz _ ?_)))
      · show 0 = if _ then (0 : Int32) else 1
        rw [if_pos z]
      · show 1 = if _ then (0 : Int32) else 1
        rw [if_neg z]
  refine pk_eq c 6 (fun e => br_c (fun z => kd e z) fun z => G fun q => z q.2) fun e => G fun q => e q.1

theorem x_op0 {post : Int32 → SX → Prop} {t a p h o x : Nat} (ht : t < 6) (hp : p < 3) (hx : x < 4) (ha : a + 1 < 120) (hc : xim (p * 120 + a) = nI 0) (ho : xim (p * 120 + (a + 1)) = nI o) (hh : xhe t = nI h) (h6 : h < 6)
    (k : post (-1) (xrc, xbc, xfc, xrn, xra, xfi, xfp, xgn, nI (t + 1), xlr, xhm, xrp, xrA, xrB, xrC, xby, xhd, xst, xbg, xco, xen, xre, xld, xim, xic, xih, xif, xop, xbp, xbq, xsc, upd xna t (nI (p * 120 + (a + 2))), upd xhe t (nI (h + 1)), xlo, upd xsk (t * 6 + h) (nI o).toInt8.toInt32)) : wpX_perform post (xrc, xbc, xfc, xrn, xra, xfi, xfp, xgn, nI (t + 1), xlr, xhm, xrp, xrA, xrB, xrC, xby, xhd, xst, xbg, xco, xen, xre, xld, xim, xic, xih, xif, xop, xbp, xbq, xsc, xna, xhe, xlo, xsk) (nI x) (nI (p * 120 + a)) := by
  unfold wpX_perform
  dsimp only
  rw [nI_clamp (by omega), hc]
  refine ⟨vp_in_nI (by omega) (by omega), nm_e ?_⟩
  refine x_hasOp (c := 0) (by omega) (fun _ => br_f ba_10 ?_) fun q => absurd q (by decide)
  rw [show nI (p * 120 + a) + 1 = nI (p * 120 + (a + 1)) from nI_1 _, nI_clamp (by omega), ho]
  refine ⟨vp_in_nI (by omega) (by omega), ?_⟩
  refine nm_r (nI_pred t) (x_sizeOf (c := 0) (by omega) ⟨vp_in_nI ht (by omega), nm_r (e' := upd xna t (nI (p * 120 + (a + 2)))) ?_ ?_⟩)
  · rw [nI_clamp (by omega)]
    exact congrArg (upd xna t) (nI_add _ _)
  refine br_f (by decide) (br_f (by decide) (br_t (by decide) ?_))
  exact x_push ht hh h6 k
theorem x_op1 {post : Int32 → SX → Prop} {t a p h o x : Nat} (ht : t < 6) (hp : p < 3) (hx : x < 4) (ha : a + 1 < 120) (hc : xim (p * 120 + a) = nI 1) (ho : xim (p * 120 + (a + 1)) = nI o) (hh : xhe t = nI h) (h6 : h < 6) (ho5 : o < 5)
    (k : post (-1) (xrc, xbc, xfc, xrn, xra, xfi, xfp, xgn, nI (t + 1), xlr, xhm, xrp, xrA, xrB, xrC, xby, xhd, xst, xbg, xco, xen, xre, xld, xim, xic, xih, xif, xop, xbp, xbq, xsc, upd xna t (nI (p * 120 + (a + 2))), upd xhe t (nI (h + 1)), xlo, upd xsk (t * 6 + h) (xlo (t * 5 + o)))) : wpX_perform post (xrc, xbc, xfc, xrn, xra, xfi, xfp, xgn, nI (t + 1), xlr, xhm, xrp, xrA, xrB, xrC, xby, xhd, xst, xbg, xco, xen, xre, xld, xim, xic, xih, xif, xop, xbp, xbq, xsc, xna, xhe, xlo, xsk) (nI x) (nI (p * 120 + a)) := by
  unfold wpX_perform
  dsimp only
  rw [nI_clamp (by omega), hc]
  refine ⟨vp_in_nI (by omega) (by omega), nm_e ?_⟩
  refine x_hasOp (c := 1) (by omega) (fun _ => br_f ba_10 ?_) fun q => absurd q (by decide)
  rw [show nI (p * 120 + a) + 1 = nI (p * 120 + (a + 1)) from nI_1 _, nI_clamp (by omega), ho]
  refine ⟨vp_in_nI (by omega) (by omega), ?_⟩
  refine nm_r (nI_pred t) (x_sizeOf (c := 1) (by omega) ⟨vp_in_nI ht (by omega), nm_r (e' := upd xna t (nI (p * 120 + (a + 2)))) ?_ ?_⟩)
  · rw [nI_clamp (by omega)]
    exact congrArg (upd xna t) (nI_add _ _)
  refine br_f (by decide) (br_f (by decide) (br_f (by decide) (br_t (by decide) ?_)))
  rw [show nI t * 5 + nI o = nI (t * 5 + o) by rw [show nI t * 5 = nI (t * 5) from pk_mul t 5, nI_add], nI_clamp (by omega)]
  exact ⟨vp_in_nI (by omega) (by omega), x_push ht hh h6 k⟩
theorem x_op2 {post : Int32 → SX → Prop} {t a p h o x : Nat} (ht : t < 6) (hp : p < 3) (hx : x < 4) (ha : a + 1 < 120) (hc : xim (p * 120 + a) = nI 2) (ho : xim (p * 120 + (a + 1)) = nI o) (hh : xhe t = nI (h + 1)) (h6 : h < 6) (ho5 : o < 5)
    (k : post (-1) (xrc, xbc, xfc, xrn, xra, xfi, xfp, xgn, nI (t + 1), xlr, xhm, xrp, xrA, xrB, xrC, xby, xhd, xst, xbg, xco, xen, xre, xld, xim, xic, xih, xif, xop, xbp, xbq, xsc, upd xna t (nI (p * 120 + (a + 2))), upd xhe t (nI h), upd xlo (t * 5 + o) (xsk (t * 6 + h)), xsk)) : wpX_perform post (xrc, xbc, xfc, xrn, xra, xfi, xfp, xgn, nI (t + 1), xlr, xhm, xrp, xrA, xrB, xrC, xby, xhd, xst, xbg, xco, xen, xre, xld, xim, xic, xih, xif, xop, xbp, xbq, xsc, xna, xhe, xlo, xsk) (nI x) (nI (p * 120 + a)) := by
  unfold wpX_perform
  dsimp only
  rw [nI_clamp (by omega), hc]
  refine ⟨vp_in_nI (by omega) (by omega), nm_e ?_⟩
  refine x_hasOp (c := 2) (by omega) (fun _ => br_f ba_10 ?_) fun q => absurd q (by decide)
  rw [show nI (p * 120 + a) + 1 = nI (p * 120 + (a + 1)) from nI_1 _, nI_clamp (by omega), ho]
  refine ⟨vp_in_nI (by omega) (by omega), ?_⟩
  refine nm_r (nI_pred t) (x_sizeOf (c := 2) (by omega) ⟨vp_in_nI ht (by omega), nm_r (e' := upd xna t (nI (p * 120 + (a + 2)))) ?_ ?_⟩)
  · rw [nI_clamp (by omega)]
    exact congrArg (upd xna t) (nI_add _ _)
  refine br_f (by decide) (br_f (by decide) (br_f (by decide) (br_f (by decide) (br_t (by decide) ?_))))
  refine x_pop ht hh h6 ?_
  rw [show nI t * 5 + nI o = nI (t * 5 + o) by rw [show nI t * 5 = nI (t * 5) from pk_mul t 5, nI_add], nI_clamp (by omega)]
  exact ⟨vp_in_nI (by omega) (by omega), nm_e k⟩
theorem x_op3 {post : Int32 → SX → Prop} {t a p h o x : Nat} (ht : t < 6) (hp : p < 3) (hx : x < 4) (ha : a + 1 < 120) (hc : xim (p * 120 + a) = nI 3) (hh : xhe t = nI (h + 2)) (h6 : h < 5)
    (k : ¬ (3 = 6 ∧ xsk (t * 6 + (h + 1)) = 0) → ∀ v, v = al_v 3 (xsk (t * 6 + h)) (xsk (t * 6 + (h + 1))) → post (-1) (xrc, xbc, xfc, xrn, xra, xfi, xfp, xgn, nI (t + 1), xlr, xhm, xrp, xrA, xrB, xrC, xby, xhd, xst, xbg, xco, xen, xre, xld, xim, xic, xih, xif, xop, xbp, xbq, xsc, upd xna t (nI (p * 120 + (a + 1))), upd (upd (upd xhe t (nI (h + 1))) t (nI h)) t (nI (h + 1)), xlo, upd xsk (t * 6 + h) v)) : wpX_perform post (xrc, xbc, xfc, xrn, xra, xfi, xfp, xgn, nI (t + 1), xlr, xhm, xrp, xrA, xrB, xrC, xby, xhd, xst, xbg, xco, xen, xre, xld, xim, xic, xih, xif, xop, xbp, xbq, xsc, xna, xhe, xlo, xsk) (nI x) (nI (p * 120 + a)) := by
  unfold wpX_perform
  dsimp only
  rw [nI_clamp (by omega), hc]
  refine ⟨vp_in_nI (by omega) (by omega), nm_e ?_⟩
  refine x_hasOp (c := 3) (by omega) (fun q => absurd q (by decide)) fun _ => br_t rfl ?_
  refine nm_r (nI_pred t) (x_sizeOf (c := 3) (by omega) ⟨vp_in_nI ht (by omega), nm_r (e' := upd xna t (nI (p * 120 + (a + 1)))) ?_ ?_⟩)
  · rw [nI_clamp (by omega)]
    exact congrArg (upd xna t) (nI_add _ _)
  refine br_f (by decide) (br_f (by decide) (br_f (by decide) (br_f (by decide) (br_f (by decide) (br_t (by decide) ?_)))))
  exact x_calc ht (by omega) hh h6 (fun z => absurd z (by decide)) k
theorem x_op4 {post : Int32 → SX → Prop} {t a p h o x : Nat} (ht : t < 6) (hp : p < 3) (hx : x < 4) (ha : a + 1 < 120) (hc : xim (p * 120 + a) = nI 4) (hh : xhe t = nI (h + 2)) (h6 : h < 5)
    (k : ¬ (4 = 6 ∧ xsk (t * 6 + (h + 1)) = 0) → ∀ v, v = al_v 4 (xsk (t * 6 + h)) (xsk (t * 6 + (h + 1))) → post (-1) (xrc, xbc, xfc, xrn, xra, xfi, xfp, xgn, nI (t + 1), xlr, xhm, xrp, xrA, xrB, xrC, xby, xhd, xst, xbg, xco, xen, xre, xld, xim, xic, xih, xif, xop, xbp, xbq, xsc, upd xna t (nI (p * 120 + (a + 1))), upd (upd (upd xhe t (nI (h + 1))) t (nI h)) t (nI (h + 1)), xlo, upd xsk (t * 6 + h) v)) : wpX_perform post (xrc, xbc, xfc, xrn, xra, xfi, xfp, xgn, nI (t + 1), xlr, xhm, xrp, xrA, xrB, xrC, xby, xhd, xst, xbg, xco, xen, xre, xld, xim, xic, xih, xif, xop, xbp, xbq, xsc, xna, xhe, xlo, xsk) (nI x) (nI (p * 120 + a)) := by
  unfold wpX_perform
  dsimp only
  rw [nI_clamp (by omega), hc]
  refine ⟨vp_in_nI (by omega) (by omega), nm_e ?_⟩
  refine x_hasOp (c := 4) (by omega) (fun q => absurd q (by decide)) fun _ => br_t rfl ?_
  refine nm_r (nI_pred t) (x_sizeOf (c := 4) (by omega) ⟨vp_in_nI ht (by omega), nm_r (e' := upd xna t (nI (p * 120 + (a + 1)))) ?_ ?_⟩)
  · rw [nI_clamp (by omega)]
    exact congrArg (upd xna t) (nI_add _ _)
  refine br_f (by decide) (br_f (by decide) (br_f (by decide) (br_f (by decide) (br_f (by decide) (br_f (by decide) (br_t (by decide) ?_))))))
  exact x_calc ht (by omega) hh h6 (fun z => absurd z (by decide)) k
theorem x_op5 {post : Int32 → SX → Prop} {t a p h o x : Nat} (ht : t < 6) (hp : p < 3) (hx : x < 4) (ha : a + 1 < 120) (hc : xim (p * 120 + a) = nI 5) (hh : xhe t = nI (h + 2)) (h6 : h < 5)
    (k : ¬ (5 = 6 ∧ xsk (t * 6 + (h + 1)) = 0) → ∀ v, v = al_v 5 (xsk (t * 6 + h)) (xsk (t * 6 + (h + 1))) → post (-1) (xrc, xbc, xfc, xrn, xra, xfi, xfp, xgn, nI (t + 1), xlr, xhm, xrp, xrA, xrB, xrC, xby, xhd, xst, xbg, xco, xen, xre, xld, xim, xic, xih, xif, xop, xbp, xbq, xsc, upd xna t (nI (p * 120 + (a + 1))), upd (upd (upd xhe t (nI (h + 1))) t (nI h)) t (nI (h + 1)), xlo, upd xsk (t * 6 + h) v)) : wpX_perform post (xrc, xbc, xfc, xrn, xra, xfi, xfp, xgn, nI (t + 1), xlr, xhm, xrp, xrA, xrB, xrC, xby, xhd, xst, xbg, xco, xen, xre, xld, xim, xic, xih, xif, xop, xbp, xbq, xsc, xna, xhe, xlo, xsk) (nI x) (nI (p * 120 + a)) := by
  unfold wpX_perform
  dsimp only
  rw [nI_clamp (by omega), hc]
  refine ⟨vp_in_nI (by omega) (by omega), nm_e ?_⟩
  refine x_hasOp (c := 5) (by omega) (fun q => absurd q (by decide)) fun _ => br_t rfl ?_
  refine nm_r (nI_pred t) (x_sizeOf (c := 5) (by omega) ⟨vp_in_nI ht (by omega), nm_r (e' := upd xna t (nI (p * 120 + (a + 1)))) ?_ ?_⟩)
  · rw [nI_clamp (by omega)]
    exact congrArg (upd xna t) (nI_add _ _)
  refine br_f (by decide) (br_f (by decide) (br_f (by decide) (br_f (by decide) (br_f (by decide) (br_f (by decide) (br_f (by decide) (br_t (by decide) ?_)))))))
  exact x_calc ht (by omega) hh h6 (fun z => absurd z (by decide)) k
theorem x_op6 {post : Int32 → SX → Prop} {t a p h o x : Nat} (ht : t < 6) (hp : p < 3) (hx : x < 4) (ha : a + 1 < 120) (hc : xim (p * 120 + a) = nI 6) (hh : xhe t = nI (h + 2)) (h6 : h < 5)
    (kd : xsk (t * 6 + (h + 1)) = 0 → post 2 (xrc, xbc, xfc, xrn, xra, xfi, xfp, xgn, nI (t + 1), xlr, xhm, xrp, xrA, xrB, xrC, xby, xhd, xst, xbg, xco, xen, xre, xld, xim, xic, xih, xif, xop, xbp, xbq, xsc, upd xna t (nI (p * 120 + (a + 1))), upd (upd xhe t (nI (h + 1))) t (nI h), xlo, xsk)) (k : ¬ (6 = 6 ∧ xsk (t * 6 + (h + 1)) = 0) → ∀ v, v = al_v 6 (xsk (t * 6 + h)) (xsk (t * 6 + (h + 1))) → post (-1) (xrc, xbc, xfc, xrn, xra, xfi, xfp, xgn, nI (t + 1), xlr, xhm, xrp, xrA, xrB, xrC, xby, xhd, xst, xbg, xco, xen, xre, xld, xim, xic, xih, xif, xop, xbp, xbq, xsc, upd xna t (nI (p * 120 + (a + 1))), upd (upd (upd xhe t (nI (h + 1))) t (nI h)) t (nI (h + 1)), xlo, upd xsk (t * 6 + h) v)) : wpX_perform post (xrc, xbc, xfc, xrn, xra, xfi, xfp, xgn, nI (t + 1), xlr, xhm, xrp, xrA, xrB, xrC, xby, xhd, xst, xbg, xco, xen, xre, xld, xim, xic, xih, xif, xop, xbp, xbq, xsc, xna, xhe, xlo, xsk) (nI x) (nI (p * 120 + a)) := by
  unfold wpX_perform
  dsimp only
  rw [nI_clamp (by omega), hc]
  refine ⟨vp_in_nI (by omega) (by omega), nm_e ?_⟩
  refine x_hasOp (c := 6) (by omega) (fun q => absurd q (by decide)) fun _ => br_t rfl ?_
  refine nm_r (nI_pred t) (x_sizeOf (c := 6) (by omega) ⟨vp_in_nI ht (by omega), nm_r (e' := upd xna t (nI (p * 120 + (a + 1)))) ?_ ?_⟩)
  · rw [nI_clamp (by omega)]
    exact congrArg (upd xna t) (nI_add _ _)
  refine br_f (by decide) (br_f (by decide) (br_f (by decide) (br_f (by decide) (br_f (by decide) (br_f (by decide) (br_f (by decide) (br_f (by decide) (br_t (by decide) ?_))))))))
  exact x_calc ht (by omega) hh h6 (fun _ z => kd z) k
theorem x_op7 {post : Int32 → SX → Prop} {t a p h o x : Nat} (ht : t < 6) (hp : p < 3) (hx : x < 4) (ha : a + 1 < 120) (hc : xim (p * 120 + a) = nI 7) (hh : xhe t = nI (h + 2)) (h6 : h < 5)
    (k : ¬ (7 = 6 ∧ xsk (t * 6 + (h + 1)) = 0) → ∀ v, v = al_v 7 (xsk (t * 6 + h)) (xsk (t * 6 + (h + 1))) → post (-1) (xrc, xbc, xfc, xrn, xra, xfi, xfp, xgn, nI (t + 1), xlr, xhm, xrp, xrA, xrB, xrC, xby, xhd, xst, xbg, xco, xen, xre, xld, xim, xic, xih, xif, xop, xbp, xbq, xsc, upd xna t (nI (p * 120 + (a + 1))), upd (upd (upd xhe t (nI (h + 1))) t (nI h)) t (nI (h + 1)), xlo, upd xsk (t * 6 + h) v)) : wpX_perform post (xrc, xbc, xfc, xrn, xra, xfi, xfp, xgn, nI (t + 1), xlr, xhm, xrp, xrA, xrB, xrC, xby, xhd, xst, xbg, xco, xen, xre, xld, xim, xic, xih, xif, xop, xbp, xbq, xsc, xna, xhe, xlo, xsk) (nI x) (nI (p * 120 + a)) := by
  unfold wpX_perform
  dsimp only
  rw [nI_clamp (by omega), hc]
  refine ⟨vp_in_nI (by omega) (by omega), nm_e ?_⟩
  refine x_hasOp (c := 7) (by omega) (fun q => absurd q (by decide)) fun _ => br_t rfl ?_
  refine nm_r (nI_pred t) (x_sizeOf (c := 7) (by omega) ⟨vp_in_nI ht (by omega), nm_r (e' := upd xna t (nI (p * 120 + (a + 1)))) ?_ ?_⟩)
  · rw [nI_clamp (by omega)]
    exact congrArg (upd xna t) (nI_add _ _)
  refine br_f (by decide) (br_f (by decide) (br_f (by decide) (br_f (by decide) (br_f (by decide) (br_f (by decide) (br_f (by decide) (br_f (by decide) (br_f (by decide) (br_t (by decide) ?_)))))))))
  exact x_calc ht (by omega) hh h6 (fun z => absurd z (by decide)) k
theorem x_op8 {post : Int32 → SX → Prop} {t a p h o x : Nat} (ht : t < 6) (hp : p < 3) (hx : x < 4) (ha : a + 1 < 120) (hc : xim (p * 120 + a) = nI 8) (hh : xhe t = nI (h + 1)) (h6 : h < 5)
    (k : post (-1) (xrc, xbc, xfc, xrn, xra, xfi, xfp, xgn, nI (t + 1), xlr, xhm, xrp, xrA, xrB, xrC, xby, xhd, xst, xbg, xco, xen, xre, xld, xim, xic, xih, xif, xop, xbp, xbq, xsc, upd xna t (nI (p * 120 + (a + 1))), upd (upd (upd xhe t (nI h)) t (nI (h + 1))) t (nI (h + 1 + 1)), xlo, upd (upd xsk (t * 6 + h) (xsk (t * 6 + h))) (t * 6 + (h + 1)) (xsk (t * 6 + h)))) : wpX_perform post (xrc, xbc, xfc, xrn, xra, xfi, xfp, xgn, nI (t + 1), xlr, xhm, xrp, xrA, xrB, xrC, xby, xhd, xst, xbg, xco, xen, xre, xld, xim, xic, xih, xif, xop, xbp, xbq, xsc, xna, xhe, xlo, xsk) (nI x) (nI (p * 120 + a)) := by
  unfold wpX_perform
  dsimp only
  rw [nI_clamp (by omega), hc]
  refine ⟨vp_in_nI (by omega) (by omega), nm_e ?_⟩
  refine x_hasOp (c := 8) (by omega) (fun q => absurd q (by decide)) fun _ => br_t rfl ?_
  refine nm_r (nI_pred t) (x_sizeOf (c := 8) (by omega) ⟨vp_in_nI ht (by omega), nm_r (e' := upd xna t (nI (p * 120 + (a + 1)))) ?_ ?_⟩)
  · rw [nI_clamp (by omega)]
    exact congrArg (upd xna t) (nI_add _ _)
  refine br_f (by decide) (br_f (by decide) (br_f (by decide) (br_f (by decide) (br_f (by decide) (br_f (by decide) (br_f (by decide) (br_f (by decide) (br_f (by decide) (br_f (by decide) (br_t (by decide) ?_))))))))))
  refine x_pop ht hh (by omega) ?_
  refine x_push ht (h := h) pk_us (by omega) ?_
  exact x_push ht (h := h + 1) pk_us (by omega) k
theorem x_op9 {post : Int32 → SX → Prop} {t a p h o x : Nat} (ht : t < 6) (hp : p < 3) (hx : x < 4) (ha : a + 1 < 120) (hc : xim (p * 120 + a) = nI 9) (hh : xhe t = nI (h + 1)) (h6 : h < 6)
    (k : post (-1) (xrc, xbc, xfc, xrn, xra, xfi, xfp, xgn, nI (t + 1), xlr, xhm, xrp, xrA, xrB, xrC, xby, xhd, xst, xbg, xco, xen, xre, xld, xim, xic, xih, xif, xop, xbp, xbq, xsc, upd xna t (nI (p * 120 + (a + 1))), upd xhe t (nI h), xlo, xsk)) : wpX_perform post (xrc, xbc, xfc, xrn, xra, xfi, xfp, xgn, nI (t + 1), xlr, xhm, xrp, xrA, xrB, xrC, xby, xhd, xst, xbg, xco, xen, xre, xld, xim, xic, xih, xif, xop, xbp, xbq, xsc, xna, xhe, xlo, xsk) (nI x) (nI (p * 120 + a)) := by
  unfold wpX_perform
  dsimp only
  rw [nI_clamp (by omega), hc]
  refine ⟨vp_in_nI (by omega) (by omega), nm_e ?_⟩
  refine x_hasOp (c := 9) (by omega) (fun q => absurd q (by decide)) fun _ => br_t rfl ?_
  refine nm_r (nI_pred t) (x_sizeOf (c := 9) (by omega) ⟨vp_in_nI ht (by omega), nm_r (e' := upd xna t (nI (p * 120 + (a + 1)))) ?_ ?_⟩)
  · rw [nI_clamp (by omega)]
    exact congrArg (upd xna t) (nI_add _ _)
  refine br_f (by decide) (br_f (by decide) (br_f (by decide) (br_f (by decide) (br_f (by decide) (br_f (by decide) (br_f (by decide) (br_f (by decide) (br_f (by decide) (br_f (by decide) (br_f (by decide) (br_t (by decide) ?_)))))))))))
  exact x_pop ht hh h6 k
theorem x_targetI {post : Int32 → Prop} {p a o j : Nat} (hp : p < 3) (ha : a + 1 < 120) (ho : xim (p * 120 + (a + 1)) = nI o) (hv : o < 256) (hj : ((a : Nat) : Int) + 2 + pl_sg o = (j : Int)) (hjl : j < 120) (k : post (nI (p * 120 + j))) : wpX_jumpTarget__image post (xrc, xbc, xfc, xrn, xra, xfi, xfp, xgn, xac, xlr, xhm, xrp, xrA, xrB, xrC, xby, xhd, xst, xbg, xco, xen, xre, xld, xim, xic, xih, xif, xop, xbp, xbq, xsc, xna, xhe, xlo, xsk) (nI (p * 120 + a)) := by
  unfold wpX_jumpTarget__image
  dsimp only
  rw [show nI (p * 120 + a) + 1 = nI (p * 120 + (a + 1)) from nI_1 _, nI_clamp (by omega), ho]
  refine ⟨vp_in_nI (by omega) (by omega), ?_⟩
  rw [tg_n (T := nI (p * 120 + a) + 2 + (nI o).toInt8.toInt32) (j := p * 120 + j) (by rw [tg_T (by omega) hv]; omega) (by omega)]
  exact k
theorem x_op10 {post : Int32 → SX → Prop} {t a p h o x : Nat} (ht : t < 6) (hp : p < 3) (hx : x < 4) (ha : a + 1 < 120) (hc : xim (p * 120 + a) = nI 10) (ho : xim (p * 120 + (a + 1)) = nI o) (hv : o < 256) {j : Nat} (hj : ((a : Nat) : Int) + 2 + pl_sg o = (j : Int)) (hjl : j < 120)
    (k : post (-1) (xrc, xbc, xfc, xrn, xra, xfi, xfp, xgn, nI (t + 1), xlr, xhm, xrp, xrA, xrB, xrC, xby, xhd, xst, xbg, xco, xen, xre, xld, xim, xic, xih, xif, xop, xbp, xbq, xsc, upd (upd xna t (nI (p * 120 + (a + 2)))) t (nI (p * 120 + j)), xhe, xlo, xsk)) : wpX_perform post (xrc, xbc, xfc, xrn, xra, xfi, xfp, xgn, nI (t + 1), xlr, xhm, xrp, xrA, xrB, xrC, xby, xhd, xst, xbg, xco, xen, xre, xld, xim, xic, xih, xif, xop, xbp, xbq, xsc, xna, xhe, xlo, xsk) (nI x) (nI (p * 120 + a)) := by
  unfold wpX_perform
  dsimp only
  rw [nI_clamp (by omega), hc]
  refine ⟨vp_in_nI (by omega) (by omega), nm_e ?_⟩
  refine x_hasOp (c := 10) (by omega) (fun _ => br_f ba_10 ?_) fun q => absurd q (by decide)
  rw [show nI (p * 120 + a) + 1 = nI (p * 120 + (a + 1)) from nI_1 _, nI_clamp (by omega), ho]
  refine ⟨vp_in_nI (by omega) (by omega), ?_⟩
  refine nm_r (nI_pred t) (x_sizeOf (c := 10) (by omega) ⟨vp_in_nI ht (by omega), nm_r (e' := upd xna t (nI (p * 120 + (a + 2)))) ?_ ?_⟩)
  · rw [nI_clamp (by omega)]
    exact congrArg (upd xna t) (nI_add _ _)
  refine br_f (by decide) (br_f (by decide) (br_f (by decide) (br_f (by decide) (br_f (by decide) (br_f (by decide) (br_f (by decide) (br_f (by decide) (br_f (by decide) (br_f (by decide) (br_f (by decide) (br_f (by decide) (br_t (by decide) ?_))))))))))))
  refine x_targetI hp ha ho hv hj hjl ⟨vp_in_nI ht (by omega), ?_⟩
  rw [nI_clamp (by omega)]
  exact nm_e k
theorem x_op11 {post : Int32 → SX → Prop} {t a p h o x : Nat} (ht : t < 6) (hp : p < 3) (hx : x < 4) (ha : a + 1 < 120) (hc : xim (p * 120 + a) = nI 11) (ho : xim (p * 120 + (a + 1)) = nI o) (hh : xhe t = nI (h + 1)) (h6 : h < 6) (hv : o < 256) {j : Nat} (hj : ((a : Nat) : Int) + 2 + pl_sg o = (j : Int)) (hjl : j < 120)
    (k0 : xsk (t * 6 + h) = 0 → post (-1) (xrc, xbc, xfc, xrn, xra, xfi, xfp, xgn, nI (t + 1), xlr, xhm, xrp, xrA, xrB, xrC, xby, xhd, xst, xbg, xco, xen, xre, xld, xim, xic, xih, xif, xop, xbp, xbq, xsc, upd (upd xna t (nI (p * 120 + (a + 2)))) t (nI (p * 120 + j)), upd xhe t (nI h), xlo, xsk)) (k1 : ¬ xsk (t * 6 + h) = 0 → post (-1) (xrc, xbc, xfc, xrn, xra, xfi, xfp, xgn, nI (t + 1), xlr, xhm, xrp, xrA, xrB, xrC, xby, xhd, xst, xbg, xco, xen, xre, xld, xim, xic, xih, xif, xop, xbp, xbq, xsc, upd xna t (nI (p * 120 + (a + 2))), upd xhe t (nI h), xlo, xsk)) : wpX_perform post (xrc, xbc, xfc, xrn, xra, xfi, xfp, xgn, nI (t + 1), xlr, xhm, xrp, xrA, xrB, xrC, xby, xhd, xst, xbg, xco, xen, xre, xld, xim, xic, xih, xif, xop, xbp, xbq, xsc, xna, xhe, xlo, xsk) (nI x) (nI (p * 120 + a)) := by
  unfold wpX_perform
  dsimp only
  rw [nI_clamp (by omega), hc]
  refine ⟨vp_in_nI (by omega) (by omega), nm_e ?_⟩
  refine x_hasOp (c := 11) (by omega) (fun _ => br_f ba_10 ?_) fun q => absurd q (by decide)
  rw [show nI (p * 120 + a) + 1 = nI (p * 120 + (a + 1)) from nI_1 _, nI_clamp (by omega), ho]
  refine ⟨vp_in_nI (by omega) (by omega), ?_⟩
  refine nm_r (nI_pred t) (x_sizeOf (c := 11) (by omega) ⟨vp_in_nI ht (by omega), nm_r (e' := upd xna t (nI (p * 120 + (a + 2)))) ?_ ?_⟩)
  · rw [nI_clamp (by omega)]
    exact congrArg (upd xna t) (nI_add _ _)
  refine br_f (by decide) (br_f (by decide) (br_f (by decide) (br_f (by decide) (br_f (by decide) (br_f (by decide) (br_f (by decide) (br_f (by decide) (br_f (by decide) (br_f (by decide) (br_f (by decide) (br_f (by decide) (br_f (by decide) (br_t (by decide) ?_)))))))))))))
  refine x_pop ht hh h6 ?_
  refine br_c (fun z => ?_) fun z => k1 z
  refine x_targetI hp ha ho hv hj hjl ⟨vp_in_nI ht (by omega), ?_⟩
  rw [nI_clamp (by omega)]
  exact nm_e (k0 z)
theorem x_op14 {post : Int32 → SX → Prop} {t a p h o x : Nat} (ht : t < 6) (hp : p < 3) (hx : x < 4) (ha : a + 1 < 120) (hc : xim (p * 120 + a) = nI 14) (ho : xim (p * 120 + (a + 1)) = nI o) (hh : xhe t = nI h) (h6 : h < 6) (ho4 : o < 4)
    (k : post (-1) (xrc, xbc, xfc, xrn, xra, xfi, xfp, xgn, nI (t + 1), xlr, xhm, xrp, xrA, xrB, xrC, xby, xhd, xst, xbg, xco, xen, xre, xld, xim, xic, xih, xif, xop, xbp, xbq, xsc, upd xna t (nI (p * 120 + (a + 2))), upd xhe t (nI (h + 1)), xlo, upd xsk (t * 6 + h) (xsc (x * 4 + o)))) : wpX_perform post (xrc, xbc, xfc, xrn, xra, xfi, xfp, xgn, nI (t + 1), xlr, xhm, xrp, xrA, xrB, xrC, xby, xhd, xst, xbg, xco, xen, xre, xld, xim, xic, xih, xif, xop, xbp, xbq, xsc, xna, xhe, xlo, xsk) (nI x) (nI (p * 120 + a)) := by
  unfold wpX_perform
  dsimp only
  rw [nI_clamp (by omega), hc]
  refine ⟨vp_in_nI (by omega) (by omega), nm_e ?_⟩
  refine x_hasOp (c := 14) (by omega) (fun _ => br_f ba_10 ?_) fun q => absurd q (by decide)
  rw [show nI (p * 120 + a) + 1 = nI (p * 120 + (a + 1)) from nI_1 _, nI_clamp (by omega), ho]
  refine ⟨vp_in_nI (by omega) (by omega), ?_⟩
  refine nm_r (nI_pred t) (x_sizeOf (c := 14) (by omega) ⟨vp_in_nI ht (by omega), nm_r (e' := upd xna t (nI (p * 120 + (a + 2)))) ?_ ?_⟩)
  · rw [nI_clamp (by omega)]
    exact congrArg (upd xna t) (nI_add _ _)
  refine br_f (by decide) (br_f (by decide) (br_f (by decide) (br_f (by decide) (br_f (by decide) (br_f (by decide) (br_f (by decide) (br_f (by decide) (br_f (by decide) (br_f (by decide) (br_f (by decide) (br_f (by decide) (br_f (by decide) (br_f (by decide) (br_f (by decide) (br_f (by decide) (br_t (by decide) ?_))))))))))))))))
  rw [show nI x * 4 + nI o = nI (x * 4 + o) by rw [show nI x * 4 = nI (x * 4) from pk_mul x 4, nI_add], nI_clamp (by omega)]
  exact ⟨vp_in_nI (by omega) (by omega), x_push ht hh h6 k⟩
theorem x_op15 {post : Int32 → SX → Prop} {t a p h o x : Nat} (ht : t < 6) (hp : p < 3) (hx : x < 4) (ha : a + 1 < 120) (hc : xim (p * 120 + a) = nI 15) (ho : xim (p * 120 + (a + 1)) = nI o) (hh : xhe t = nI (h + 1)) (h6 : h < 6) (ho4 : o < 4)
    (k : post (-1) (xrc, xbc, xfc, xrn, xra, xfi, xfp, xgn, nI (t + 1), xlr, xhm, xrp, xrA, xrB, xrC, xby, xhd, xst, xbg, xco, xen, xre, xld, xim, xic, xih, xif, xop, xbp, xbq, upd xsc (x * 4 + o) (xsk (t * 6 + h)), upd xna t (nI (p * 120 + (a + 2))), upd xhe t (nI h), xlo, xsk)) : wpX_perform post (xrc, xbc, xfc, xrn, xra, xfi, xfp, xgn, nI (t + 1), xlr, xhm, xrp, xrA, xrB, xrC, xby, xhd, xst, xbg, xco, xen, xre, xld, xim, xic, xih, xif, xop, xbp, xbq, xsc, xna, xhe, xlo, xsk) (nI x) (nI (p * 120 + a)) := by
  unfold wpX_perform
  dsimp only
  rw [nI_clamp (by omega), hc]
  refine ⟨vp_in_nI (by omega) (by omega), nm_e ?_⟩
  refine x_hasOp (c := 15) (by omega) (fun _ => br_f ba_10 ?_) fun q => absurd q (by decide)
  rw [show nI (p * 120 + a) + 1 = nI (p * 120 + (a + 1)) from nI_1 _, nI_clamp (by omega), ho]
  refine ⟨vp_in_nI (by omega) (by omega), ?_⟩
  refine nm_r (nI_pred t) (x_sizeOf (c := 15) (by omega) ⟨vp_in_nI ht (by omega), nm_r (e' := upd xna t (nI (p * 120 + (a + 2)))) ?_ ?_⟩)
  · rw [nI_clamp (by omega)]
    exact congrArg (upd xna t) (nI_add _ _)
  refine br_f (by decide) (br_f (by decide) (br_f (by decide) (br_f (by decide) (br_f (by decide) (br_f (by decide) (br_f (by decide) (br_f (by decide) (br_f (by decide) (br_f (by decide) (br_f (by decide) (br_f (by decide) (br_f (by decide) (br_f (by decide) (br_f (by decide) (br_f (by decide) (br_f (by decide) (br_t (by decide) ?_)))))))))))))))))
  refine x_pop ht hh h6 ?_
  rw [show nI x * 4 + nI o = nI (x * 4 + o) by rw [show nI x * 4 = nI (x * 4) from pk_mul x 4, nI_add], nI_clamp (by omega)]
  exact ⟨vp_in_nI (by omega) (by omega), nm_e k⟩
/-- the host's memory after HOST with v and the path A, B, C -/
def ho_m (m : Int64) (v A B C : Int32) : Int64 := ((m * 33) + (v.toInt64 * 512)) + ((((64 * A) + (8 * B)) + C).toInt64)
def ho_a (m : Int64) : Int32 := ((m.toUInt64 >>> ((20 : Int32).toInt64.toUInt64 &&& Int64.toUInt64 63)).toInt64).toInt32
theorem x_op13 {post : Int32 → SX → Prop} {t a p h o x : Nat} (ht : t < 6) (hp : p < 3) (hx : x < 4) (ha : a + 1 < 120) (hc : xim (p * 120 + a) = nI 13) (ho : xim (p * 120 + (a + 1)) = nI o) (hh : xhe t = nI (h + 1)) (h6 : h < 6) (ho4 : o < 4) (hbp : xbp x = nI p) {A B C : Int32} (hA : xim (p * 120 + (2 + 3 * o)) = A) (hB : xim (p * 120 + (2 + 3 * o + 1)) = B) (hC : xim (p * 120 + (2 + 3 * o + 2)) = C)
    (k : ∀ hm, hm = ho_m xhm (xsk (t * 6 + h)) A B C → post (-1) (xrc, xbc, xfc, xrn, xra, xfi, xfp, xgn, nI (t + 1), xlr, hm, xrp, xrA, xrB, xrC, xby, xhd, xst, xbg, xco, xen, xre, xld, xim, xic, xih, xif, xop, xbp, xbq, xsc, upd xna t (nI (p * 120 + (a + 2))), upd (upd xhe t (nI h)) t (nI (h + 1)), xlo, upd xsk (t * 6 + h) (ho_a hm))) : wpX_perform post (xrc, xbc, xfc, xrn, xra, xfi, xfp, xgn, nI (t + 1), xlr, xhm, xrp, xrA, xrB, xrC, xby, xhd, xst, xbg, xco, xen, xre, xld, xim, xic, xih, xif, xop, xbp, xbq, xsc, xna, xhe, xlo, xsk) (nI x) (nI (p * 120 + a)) := by
  unfold wpX_perform
  dsimp only
  rw [nI_clamp (by omega), hc]
  refine ⟨vp_in_nI (by omega) (by omega), nm_e ?_⟩
  refine x_hasOp (c := 13) (by omega) (fun _ => br_f ba_10 ?_) fun q => absurd q (by decide)
  rw [show nI (p * 120 + a) + 1 = nI (p * 120 + (a + 1)) from nI_1 _, nI_clamp (by omega), ho]
  refine ⟨vp_in_nI (by omega) (by omega), ?_⟩
  refine nm_r (nI_pred t) (x_sizeOf (c := 13) (by omega) ⟨vp_in_nI ht (by omega), nm_r (e' := upd xna t (nI (p * 120 + (a + 2)))) ?_ ?_⟩)
  · rw [nI_clamp (by omega)]
    exact congrArg (upd xna t) (nI_add _ _)
  refine br_f (by decide) (br_f (by decide) (br_f (by decide) (br_f (by decide) (br_f (by decide) (br_f (by decide) (br_f (by decide) (br_f (by decide) (br_f (by decide) (br_f (by decide) (br_f (by decide) (br_f (by decide) (br_f (by decide) (br_f (by decide) (br_f (by decide) (br_t (by decide) ?_)))))))))))))))
  rw [nI_clamp (by omega), hbp, show nI p * 120 + 2 + 3 * nI o = nI (p * 120 + (2 + 3 * o)) by
    rw [show nI p * 120 = nI (p * 120) from pk_mul p 120, show nI (p * 120) + 2 = nI (p * 120 + 2) from nI_add _ 2, show 3 * nI o = nI (3 * o) from pk_mul 3 o, nI_add]
    exact congrArg nI (by omega)]
  refine ⟨vp_in_nI hx (by omega), ?_⟩
  unfold wpX_askHost
  dsimp only
  refine x_pop ht hh h6 ?_
  dsimp only
  rw [show nI (p * 120 + (2 + 3 * o)) + 1 = nI (p * 120 + (2 + 3 * o + 1)) from nI_1 _, show nI (p * 120 + (2 + 3 * o)) + 2 = nI (p * 120 + (2 + 3 * o + 2)) from nI_add _ 2, nI_clamp (by omega), nI_clamp (by omega), nI_clamp (by omega), hA, hB, hC]
  exact ⟨vp_in_nI (by omega) (by omega), vp_in_nI (by omega) (by omega), vp_in_nI (by omega) (by omega), nm_e (x_push ht (h := h) pk_us h6 (k _ rfl))⟩
theorem x_op16 {post : Int32 → SX → Prop} {t a p h o x : Nat} (ht : t < 6) (hp : p < 3) (hx : x < 4) (ha : a < 120) (hc : xim (p * 120 + a) = nI 16) (hh : xhe t = nI (h + 1)) (h6 : h < 6)
    (k0 : t = 0 → post 0 (xrc, xbc, xfc, xrn, xra, xfi, xfp, xgn, 0, xsk (t * 6 + h), xhm, xrp, xrA, xrB, xrC, xby, xhd, xst, xbg, xco, xen, xre, xld, xim, xic, xih, xif, xop, xbp, xbq, xsc, upd xna t (nI (p * 120 + (a + 1))), upd xhe t (nI h), xlo, xsk)) (k1 : ∀ s g, t = s + 1 → xhe s = nI g → g < 6 → post (-1) (xrc, xbc, xfc, xrn, xra, xfi, xfp, xgn, nI (s + 1), xlr, xhm, xrp, xrA, xrB, xrC, xby, xhd, xst, xbg, xco, xen, xre, xld, xim, xic, xih, xif, xop, xbp, xbq, xsc, upd xna t (nI (p * 120 + (a + 1))), upd (upd xhe t (nI h)) s (nI (g + 1)), xlo, upd xsk (s * 6 + g) (xsk (t * 6 + h)))) (hg : ∀ s, t = s + 1 → ∃ g, xhe s = nI g ∧ g < 6) : wpX_perform post (xrc, xbc, xfc, xrn, xra, xfi, xfp, xgn, nI (t + 1), xlr, xhm, xrp, xrA, xrB, xrC, xby, xhd, xst, xbg, xco, xen, xre, xld, xim, xic, xih, xif, xop, xbp, xbq, xsc, xna, xhe, xlo, xsk) (nI x) (nI (p * 120 + a)) := by
  unfold wpX_perform
  dsimp only
  rw [nI_clamp (by omega), hc]
  refine ⟨vp_in_nI (by omega) (by omega), nm_e ?_⟩
  refine x_hasOp (c := 16) (by omega) (fun q => absurd q (by decide)) fun _ => br_t rfl ?_
  refine nm_r (nI_pred t) (x_sizeOf (c := 16) (by omega) ⟨vp_in_nI ht (by omega), nm_r (e' := upd xna t (nI (p * 120 + (a + 1)))) ?_ ?_⟩)
  · rw [nI_clamp (by omega)]
    exact congrArg (upd xna t) (nI_add _ _)
  refine br_f (by decide) (br_f (by decide) (br_f (by decide) (br_f (by decide) (br_f (by decide) (br_f (by decide) (br_f (by decide) (br_f (by decide) (br_f (by decide) (br_f (by decide) (br_f (by decide) (br_f (by decide) (br_f (by decide) (br_f (by decide) (br_f (by decide) (br_f (by decide) (br_f (by decide) (br_f (by decide) (br_t (by decide) ?_))))))))))))))))))
  unfold wpX_leave
  dsimp only
  refine x_pop ht hh h6 ?_
  refine nm_r (nI_pred t) ?_
  cases t with
  | zero => exact br_t nI_0 (k0 rfl)
  | succ s =>
    obtain ⟨g, g1, g2⟩ := hg s rfl
    have hs : upd xhe (s + 1) (nI h) s = nI g := by rw [pk_un (by omega)]; exact g1
    exact br_f (nI_ne0 (by omega) (by omega)) (x_push (by omega) hs g2 (k1 s g rfl g1 g2))
end D1
end
section
section D2
variable {r n : Nat} {pt M b : Nat → Nat} {yru ypl ynu yps yfi yac yre : Int32} {yme : Int64} {yrp yrq yrl yby yle ypr ywa ybp ybq ybo ysc yfn yat yhi ylo yen : Nat → Int32}
/-! the reference's blocks and costs -/
def le_c (b : Nat → Nat) (j i : Nat) : Prop := ((b i = 10 ∨ b i = 11) ∧ pl_tg b i = (j : Int)) ∨ (10 ≤ b i ∧ b i ≤ 13 ∧ i + 2 = j) ∨ (b i = 16 ∧ i + 1 = j)
theorem y_leads {post : Int32 → Prop} {p f j : Nat} (hp : p ≤ 3) (hn : n ≤ 120) (hF : pl_Fmt (re_b M p) n) (hf : f < pl_nf (re_b M p)) (hv : ∀ i, M i < 256) (hC : ∀ i, pl_IS (re_b M p) f i → ¬ pl_bad (re_b M p) f i) (hj : j < 120)
    (k1 : pl_L (re_b M p) f j → post 1) (k0 : ¬ pl_L (re_b M p) f j → post 0) : wpY_leads post (yru, ypl, ynu, yps, yfi, yac, yre, yme, yrp, yrq, yrl, fun i => nI (M i), yle, ypr, ywa, ybp, ybq, ybo, ysc, yfn, yat, yhi, ylo, yen) (nI p) (nI f) (nI (p * 120 + j)) := by
  have he := pl_ef hF hf
  have hh := pl_hf hF hf
  have hs : pl_s (re_b M p) f < pl_e (re_b M p) f := hh
  have h4 := hF.2.2.2.1
  have hi : ∀ i, i < f + 1 → pl_hd (re_b M p) i + 2 < 120 := by
    intro i h
    have := pl_hd_le (re_b M p) i f (by omega)
    omega
  unfold wpY_leads
  dsimp only
  refine y_codeStart hp (by omega) hF.1 (fun i h => hi i (by omega)) ?_
  refine y_codeEnd hp (by omega) hF.1 hi ?_
  refine pk_eq (p * 120 + j) (p * 120 + pl_s (re_b M p) f) (fun e => k1 (Or.inl (by omega))) fun e => ⟨pl_e (re_b M p) f - pl_s (re_b M p) f + 1, ?_⟩
  have L : ∀ d k, pl_e (re_b M p) f ≤ pl_sc (re_b M p) (pl_s (re_b M p) f) k + d → pl_sc (re_b M p) (pl_s (re_b M p) f) k ≤ pl_e (re_b M p) f → (∀ m, m < k → ¬ le_c (re_b M p) j (pl_sc (re_b M p) (pl_s (re_b M p) f) m)) →
      wY_leads_28 post (nI (p * 120 + j)) (nI (p * 120 + pl_e (re_b M p) f)) yru ypl ynu yps yfi yac yre yme yrp yrq yrl (fun i => nI (M i)) yle ypr ywa ybp ybq ybo ysc yfn yat yhi ylo yen (d + 1) (nI (p * 120 + pl_sc (re_b M p) (pl_s (re_b M p) f) k)) := by
    have fin : ∀ k, pl_e (re_b M p) f ≤ pl_sc (re_b M p) (pl_s (re_b M p) f) k → (∀ m, m < k → ¬ le_c (re_b M p) j (pl_sc (re_b M p) (pl_s (re_b M p) f) m)) → post 0 := by
      intro k h1 h3
      refine k0 fun hL => ?_
      rcases hL with rfl | ⟨i, hI, h⟩
      · omega
      · obtain ⟨m, hm, rfl⟩ := y_st (k := k) hI (by have := hI.1; omega)
        exact h3 m hm h
    intro d
    induction d with
    | zero =>
      intro k h1 h2 h3
      exact br_t (nI_le (by omega) (by omega)) (fin k h1 h3)
    | succ d ih =>
      intro k h1 h2 h3
      refine pk_le (p * 120 + pl_e (re_b M p) f) (p * 120 + pl_sc (re_b M p) (pl_s (re_b M p) f) k) (fun h => fin k (by omega) h3) fun h => ?_
      have is : pl_IS (re_b M p) f (pl_sc (re_b M p) (pl_s (re_b M p) f) k) := ⟨by omega, k, rfl⟩
      have bad := hC _ is
      have nx := pl_nx bad is.1
      have wdd := fun q => pl_wide bad q
      have N := ih (k + 1)
      have hsc : pl_sc (re_b M p) (pl_s (re_b M p) f) (k + 1) = pl_sc (re_b M p) (pl_s (re_b M p) f) k + pl_sz (re_b M p (pl_sc (re_b M p) (pl_s (re_b M p) f) k)) := rfl
      have vb := y_hvb hv p (pl_sc (re_b M p) (pl_s (re_b M p) f) k)
      have hz := pl_sz_pos (re_b M p (pl_sc (re_b M p) (pl_s (re_b M p) f) k))
      have N2 := fun (z : ¬ le_c (re_b M p) j (pl_sc (re_b M p) (pl_s (re_b M p) f) k)) => N (by omega) (by omega) fun m hm => (show ¬ le_c (re_b M p) j (pl_sc (re_b M p) (pl_s (re_b M p) f) m) by
        by_cases em : m = k
        · subst em; exact z
        · exact h3 m (by omega))
      rw [hsc] at N2
      have Y1 : le_c (re_b M p) j (pl_sc (re_b M p) (pl_s (re_b M p) f) k) → post 1 := fun q => k1 (Or.inr ⟨_, is, q⟩)
      generalize pl_sc (re_b M p) (pl_s (re_b M p) f) k = i at *
      have V : vp_in (nI (p * 120 + i)) 480 := vp_in_nI (by omega) (by omega)
      have s109 : ¬ le_c (re_b M p) j i → wY_leads_109 post (wY_leads_28 post (nI (p * 120 + j)) (nI (p * 120 + pl_e (re_b M p) f)) yru ypl ynu yps yfi yac yre yme yrp yrq yrl (fun i => nI (M i)) yle ypr ywa ybp ybq ybo ysc yfn yat yhi ylo yen (d + 1)) (nI (p * 120 + j)) (nI (p * 120 + pl_e (re_b M p) f)) (nI (p * 120 + i)) yru ypl ynu yps yfi yac yre yme yrp yrq yrl (fun i => nI (M i)) yle ypr ywa ybp ybq ybo ysc yfn yat yhi ylo yen := by
        intro z
        have N3 := N2 z
        refine ⟨V, ?_⟩
        dsimp only
        rw [y_rd hp (by omega)]
        refine y_wide vb (fun hw => br_f ba_10 (nm_r (show _ = nI (p * 120 + (i + 2)) from nI_add _ 2) ?_)) fun hw => br_t rfl (nm_r (show _ = nI (p * 120 + (i + 1)) from nI_1 _) ?_)
        · rw [hw] at N3; exact N3
        · rw [hw] at N3; exact N3
      have s92 : ¬ ((re_b M p i = 10 ∨ re_b M p i = 11) ∧ pl_tg (re_b M p) i = (j : Int)) → ¬ (10 ≤ re_b M p i ∧ re_b M p i ≤ 13 ∧ i + 2 = j) → wY_leads_92 post (wY_leads_28 post (nI (p * 120 + j)) (nI (p * 120 + pl_e (re_b M p) f)) yru ypl ynu yps yfi yac yre yme yrp yrq yrl (fun i => nI (M i)) yle ypr ywa ybp ybq ybo ysc yfn yat yhi ylo yen (d + 1)) (nI (p * 120 + j)) (nI (p * 120 + pl_e (re_b M p) f)) (nI (p * 120 + i)) (nI (re_b M p i)) yru ypl ynu yps yfi yac yre yme yrp yrq yrl (fun i => nI (M i)) yle ypr ywa ybp ybq ybo ysc yfn yat yhi ylo yen := by
        intro q1 q2
        refine pk_eq (re_b M p i) 16 (fun c => ?_) fun c => s109 fun z => ?_
        · rw [show nI (p * 120 + i) + 1 = nI (p * 120 + (i + 1)) from nI_1 _]
          refine pk_eq (p * 120 + (i + 1)) (p * 120 + j) (fun e => Y1 (Or.inr (Or.inr ⟨c, by omega⟩))) fun e => s109 fun z => ?_
          rcases z with z | z | z
          · exact q1 z
          · exact q2 z
          · omega
        · rcases z with z | z | z
          · exact q1 z
          · exact q2 z
          · exact c z.1
      have s70 : ¬ ((re_b M p i = 10 ∨ re_b M p i = 11) ∧ pl_tg (re_b M p) i = (j : Int)) → wY_leads_70 post (wY_leads_28 post (nI (p * 120 + j)) (nI (p * 120 + pl_e (re_b M p) f)) yru ypl ynu yps yfi yac yre yme yrp yrq yrl (fun i => nI (M i)) yle ypr ywa ybp ybq ybo ysc yfn yat yhi ylo yen (d + 1)) (nI (p * 120 + j)) (nI (p * 120 + pl_e (re_b M p) f)) (nI (p * 120 + i)) (nI (re_b M p i)) yru ypl ynu yps yfi yac yre yme yrp yrq yrl (fun i => nI (M i)) yle ypr ywa ybp ybq ybo ysc yfn yat yhi ylo yen := by
        intro q1
        refine pk_lt (re_b M p i) 10 (fun c => s92 q1 (by omega)) fun c => pk_lt 13 (re_b M p i) (fun c' => s92 q1 (by omega)) fun c' => ?_
        rw [show nI (p * 120 + i) + 2 = nI (p * 120 + (i + 2)) from nI_add _ 2]
        exact pk_eq (p * 120 + (i + 2)) (p * 120 + j) (fun e => Y1 (Or.inr (Or.inl ⟨c, c', by omega⟩))) fun e => s92 q1 (by omega)
      have s58 : (re_b M p i = 10 ∨ re_b M p i = 11) → wY_leads_58 post (wY_leads_28 post (nI (p * 120 + j)) (nI (p * 120 + pl_e (re_b M p) f)) yru ypl ynu yps yfi yac yre yme yrp yrq yrl (fun i => nI (M i)) yle ypr ywa ybp ybq ybo ysc yfn yat yhi ylo yen (d + 1)) (nI (p * 120 + j)) (nI (p * 120 + pl_e (re_b M p) f)) (nI (p * 120 + i)) (nI (re_b M p i)) yru ypl ynu yps yfi yac yre yme yrp yrq yrl (fun i => nI (M i)) yle ypr ywa ybp ybq ybo ysc yfn yat yhi ylo yen := by
        intro c
        have h1 := wdd (pl_sz2.mpr (by omega))
        refine y_target hp (by omega) hv fun T hT => ?_
        refine br_c (fun e => Y1 (Or.inl ⟨c, ?_⟩)) fun e => s70 fun z => e (tg_n (by rw [hT, z.2]; omega) (by omega))
        rw [e, nI_toInt (by omega)] at hT
        omega
      refine ⟨V, nm_r (e' := nI (re_b M p i)) (y_rd hp (by omega)) ?_⟩
      exact pk_eq (re_b M p i) 10 (fun c => s58 (Or.inl c)) fun c => pk_eq (re_b M p i) 11 (fun c' => s58 (Or.inr c')) fun c' => s70 fun z => absurd z.1 (by omega)
  exact L (pl_e (re_b M p) f - pl_s (re_b M p) f) 0 (by show _ ≤ pl_s (re_b M p) f + _; omega) (by show pl_s (re_b M p) f ≤ _; omega) fun m hm => absurd hm (by omega)
theorem y_cost {post : Int32 → Prop} {p f a : Nat} (hp : p ≤ 3) (hn : n ≤ 120) (hF : pl_Fmt (re_b M p) n) (hf : f < pl_nf (re_b M p)) (hv : ∀ i, M i < 256) (hC : ∀ i, pl_IS (re_b M p) f i → ¬ pl_bad (re_b M p) f i) (hI : pl_IS (re_b M p) f a)
    (k : post (nI (pl_wt (re_b M p a) + pl_T (re_b M p) f (a + pl_sz (re_b M p a))))) : wpY_cost post (yru, ypl, ynu, yps, yfi, yac, yre, yme, yrp, yrq, yrl, fun i => nI (M i), yle, ypr, ywa, ybp, ybq, ybo, ysc, yfn, yat, yhi, ylo, yen) (nI p) (nI f) (nI (p * 120 + a)) := by
  have he := pl_ef hF hf
  have hh := pl_hf hF hf
  have h4 := hF.2.2.2.1
  have hi : ∀ i, i < f + 1 → pl_hd (re_b M p) i + 2 < 120 := by
    intro i h
    have := pl_hd_le (re_b M p) i f (by omega)
    omega
  have la := hI.1
  unfold wpY_cost
  dsimp only
  refine y_codeEnd hp (by omega) hF.1 hi ⟨pl_e (re_b M p) f - a + 2, ?_⟩
  -- one instruction taken in
  have S : ∀ (J : Int32 → Int32 → Prop) i acc, pl_IS (re_b M p) f i → J (nI (acc + pl_wt (re_b M p i))) (nI (p * 120 + (i + pl_sz (re_b M p i)))) →
      wY_cost_41 post J (nI p) (nI f) (nI (p * 120 + a)) (nI (p * 120 + pl_e (re_b M p) f)) (nI acc) (nI (p * 120 + i)) yru ypl ynu yps yfi yac yre yme yrp yrq yrl (fun i => nI (M i)) yle ypr ywa ybp ybq ybo ysc yfn yat yhi ylo yen := by
    intro J i acc is q
    have li := is.1
    have vb := y_hvb hv p i
    have V : vp_in (nI (p * 120 + i)) 480 := vp_in_nI (by omega) (by omega)
    have s60 : ∀ z0, z0 = nI (pl_wt (re_b M p i)) → wY_cost_60 post J (nI p) (nI f) (nI (p * 120 + a)) (nI (p * 120 + pl_e (re_b M p) f)) (nI (p * 120 + i)) z0 (nI acc) yru ypl ynu yps yfi yac yre yme yrp yrq yrl (fun i => nI (M i)) yle ypr ywa ybp ybq ybo ysc yfn yat yhi ylo yen := by
      intro z0 ez
      subst ez
      refine nm_r (nI_add _ _) ⟨V, ?_⟩
      dsimp only
      rw [y_rd hp (by omega)]
      refine y_wide vb (fun hw => br_f ba_10 (nm_r (show _ = nI (p * 120 + (i + 2)) from nI_add _ 2) ?_)) fun hw => br_t rfl (nm_r (show _ = nI (p * 120 + (i + 1)) from nI_1 _) ?_)
      · rw [hw] at q; exact q
      · rw [hw] at q; exact q
    refine ⟨V, ?_⟩
    dsimp only
    rw [y_rd hp (by omega)]
    exact pk_eq (re_b M p i) 13 (fun c => s60 5 (by unfold pl_wt; rw [if_pos c]; rfl)) fun c => s60 1 (by unfold pl_wt; rw [if_neg c]; rfl)
  have L : ∀ d i acc, pl_e (re_b M p) f ≤ i + d → a < i → (pl_IS (re_b M p) f i ∨ i = pl_e (re_b M p) f) → post (nI (acc + pl_T (re_b M p) f i)) →
      wY_cost_14 post (nI p) (nI f) (nI (p * 120 + a)) (nI (p * 120 + pl_e (re_b M p) f)) yru ypl ynu yps yfi yac yre yme yrp yrq yrl (fun i => nI (M i)) yle ypr ywa ybp ybq ybo ysc yfn yat yhi ylo yen (d + 1) (nI acc) (nI (p * 120 + i)) := by
    intro d
    induction d with
    | zero =>
      intro i acc h1 h2 h3 q
      have h5 : i = pl_e (re_b M p) f := by
        rcases h3 with z | z
        · have := z.1; omega
        · exact z
      rw [h5, pl_T_end (Nat.le_refl _)] at q
      rw [h5]
      exact br_t (nI_le (by omega) (by omega)) q
    | succ d ih =>
      intro i acc h1 h2 h3 q
      rcases h3 with is | rfl
      · have li := is.1
        have nx := pl_nx (hC i is) li
        have hz := pl_sz_pos (re_b M p i)
        refine br_f (nI_ge (by omega) (by omega)) (br_f (nI_ge (by omega) (by omega)) ?_)
        refine y_leads hp hn hF hf hv hC (by omega) (fun hL => br_f ba_10 ?_) fun hL => br_t rfl (S _ i acc is (ih (i + pl_sz (re_b M p i)) (acc + pl_wt (re_b M p i)) (by omega) (by omega) ?_ ?_))
        · rw [pl_T_L hL] at q; exact q
        · by_cases e : i + pl_sz (re_b M p i) = pl_e (re_b M p) f
          · exact Or.inr e
          · exact Or.inl (pl_ISn is (by omega))
        · rw [pl_T_n li hL] at q
          rw [Nat.add_assoc]
          exact q
      · rw [pl_T_end (Nat.le_refl _)] at q
        exact br_t (nI_le (by omega) (by omega)) q
  have nx := pl_nx (hC a hI) la
  have hz := pl_sz_pos (re_b M p a)
  refine br_f (nI_ge (by omega) (by omega)) (br_t (nI_le (by omega) (by omega)) (S _ a 0 hI ?_))
  refine L (pl_e (re_b M p) f - a) (a + pl_sz (re_b M p a)) (0 + pl_wt (re_b M p a)) (by omega) (by omega) ?_ ?_
  · by_cases e : a + pl_sz (re_b M p a) = pl_e (re_b M p) f
    · exact Or.inr e
    · exact Or.inl (pl_ISn hI (by omega))
  · rw [Nat.zero_add]; exact k
end D2
end
section
section D3
variable {r n : Nat} {pt M b : Nat → Nat} {yru ypl ynu yps yfi yac yre : Int32} {yme : Int64} {yrp yrq yrl yby yle ypr ywa ybp ybq ybo ysc yfn yat yhi ylo yen : Nat → Int32}
/-! the reference's machine, one instruction at a time -/
theorem y_give {post : SY → Prop} {t h : Nat} {v : Int32} (ht : t < 6) (hh : yhi t = nI h) (h7 : h < 7) (k : post (yru, ypl, ynu, yps, yfi, nI (t + 1), yre, yme, yrp, yrq, yrl, yby, yle, ypr, ywa, ybp, ybq, ybo, ysc, yfn, yat, upd yhi t (nI (h + 1)), ylo, upd yen (t * 7 + h) v)) : wpY_give post (yru, ypl, ynu, yps, yfi, nI (t + 1), yre, yme, yrp, yrq, yrl, yby, yle, ypr, ywa, ybp, ybq, ybo, ysc, yfn, yat, yhi, ylo, yen) v := by
  have V : vp_in (nI t) 6 := vp_in_nI ht (by omega)
  have e : nI t * 7 + nI h = nI (t * 7 + h) := by rw [show nI t * 7 = nI (t * 7) from pk_mul t 7, nI_add]
  unfold wpY_give
  dsimp only
  refine nm_r (nI_pred t) ⟨V, ?_⟩
  rw [nI_clamp (by omega), hh]
  exact ⟨by rw [e]; exact vp_in_nI (by omega) (by omega), nm_r (by rw [e, nI_clamp (by omega)]) ⟨V, V, nm_r (by rw [nI_1]) k⟩⟩
theorem y_front {post : Int32 → SY → Prop} {t a p h o c x : Nat} {vv uu : Int32} (ht : t < 6) (hp : p ≤ 3) (ha : a + 1 < 120 ∨ pl_sz c = 1) (hc : c ≤ 16) (ho : pl_sz c = 2 → re_b M p (a + 1) = o) (ho' : pl_sz c = 1 → o = 0) (hh : yhi t = nI h) (h6 : h ≤ 6)
    (v0 : h = 0 → vv = 0) (v1 : ∀ g, h = g + 1 → vv = yen (t * 7 + g)) (u0 : h ≤ 1 → uu = 0) (u1 : ∀ g, h = g + 2 → uu = yen (t * 7 + g))
    (k : wY_step_159 post (nI p) (nI x) (nI t) (nI (p * 120 + a)) (nI c) (nI o) (nI h) vv uu yru ypl ynu yps yfi yac yre yme yrp yrq yrl (fun i => nI (M i)) yle ypr ywa ybp ybq ybo ysc yfn yat yhi ylo yen) : wY_step_79 post (nI p) (nI x) (nI t) (nI (p * 120 + a)) (nI c) yru ypl ynu yps yfi yac yre yme yrp yrq yrl (fun i => nI (M i)) yle ypr ywa ybp ybq ybo ysc yfn yat yhi ylo yen := by
  have s133 : ∀ z0, z0 = vv → wY_step_133 post (nI p) (nI x) (nI t) (nI (p * 120 + a)) (nI c) (nI o) (nI h) z0 yru ypl ynu yps yfi yac yre yme yrp yrq yrl (fun i => nI (M i)) yle ypr ywa ybp ybq ybo ysc yfn yat yhi ylo yen := by
    intro z0 ez
    subst ez
    refine pk_le h 1 (fun q => ?_) fun q => ?_
    · rw [u0 q] at k; exact k
    · obtain ⟨g, rfl⟩ : ∃ g, h = g + 2 := ⟨h - 2, by omega⟩
      have e : nI t * 7 + nI (g + 2) - 2 = nI (t * 7 + g) := by
        rw [show nI t * 7 = nI (t * 7) from pk_mul t 7, nI_add, show nI (t * 7 + (g + 2)) - 2 = nI (t * 7 + (g + 2) - 2) from pk_sub (b := 2) (by omega)]
        exact congrArg nI (by omega)
      rw [e, nI_clamp (by omega), ← u1 g rfl]
      exact ⟨vp_in_nI (by omega) (by omega), k⟩
  have s100 : ∀ z0, z0 = nI o → wY_step_100 post (nI p) (nI x) (nI t) (nI (p * 120 + a)) (nI c) z0 yru ypl ynu yps yfi yac yre yme yrp yrq yrl (fun i => nI (M i)) yle ypr ywa ybp ybq ybo ysc yfn yat yhi ylo yen := by
    intro z0 ez
    subst ez
    unfold wY_step_100
    rw [nI_clamp (show t < 2 ^ 31 by omega), hh]
    refine ⟨vp_in_nI ht (by omega), nm_e (pk_le h 0 (fun q => s133 _ (v0 (by omega)).symm) fun q => ?_)⟩
    obtain ⟨g, rfl⟩ : ∃ g, h = g + 1 := ⟨h - 1, by omega⟩
    have e : nI t * 7 + nI (g + 1) - 1 = nI (t * 7 + g) := by
      rw [show nI t * 7 = nI (t * 7) from pk_mul t 7, nI_add]
      exact nI_pred _
    rw [e, nI_clamp (by omega)]
    exact ⟨vp_in_nI (by omega) (by omega), s133 _ (v1 g rfl).symm⟩
  refine y_wide (show c < 256 by omega) (fun w => br_f ba_10 ?_) fun w => br_t rfl (s100 0 (by rw [ho' w]; rfl))
  have ha : a + 1 < 120 := by omega
  dsimp only
  rw [show nI (p * 120 + a) + 1 = nI (p * 120 + (a + 1)) from nI_1 _]
  exact ⟨vp_in_nI (by omega) (by omega), s100 _ (by rw [y_rd hp ha, ho w])⟩
theorem y_256 {post : Int32 → SY → Prop} {t a p h o c x f : Nat} {vv uu z0 : Int32} (ht : t < 6) (hp : p ≤ 3) (hn : n ≤ 120) (hF : pl_Fmt (re_b M p) n) (hf : f < pl_nf (re_b M p)) (la : a < pl_e (re_b M p) f) (bad : ¬ pl_bad (re_b M p) f a) (hc : re_b M p a = c) (htk : pl_tk (re_b M p) a ≤ h) (h6 : h ≤ 6)
    (k2 : c = 2 → o < 5 ∧ wY_step_292 post (nI p) (nI x) (nI t) (nI c) (nI o) vv uu yru ypl ynu yps yfi yac yre yme yrp yrq yrl (fun i => nI (M i)) yle ypr ywa ybp ybq ybo ysc yfn (upd yat t z0) (upd yhi t (nI (h - pl_tk (re_b M p) a))) (upd ylo (t * 5 + o) vv) yen)
    (k : c ≠ 2 → wY_step_292 post (nI p) (nI x) (nI t) (nI c) (nI o) vv uu yru ypl ynu yps yfi yac yre yme yrp yrq yrl (fun i => nI (M i)) yle ypr ywa ybp ybq ybo ysc yfn (upd yat t z0) (upd yhi t (nI (h - pl_tk (re_b M p) a))) ylo yen) :
    wY_step_256 post (nI p) (nI x) (nI t) (nI (p * 120 + a)) (nI c) (nI o) (nI h) vv uu z0 (nI t) yru ypl ynu yps yfi yac yre yme yrp yrq yrl (fun i => nI (M i)) yle ypr ywa ybp ybq ybo ysc yfn yat yhi ylo yen := by
  have c16 : c ≤ 16 := by unfold pl_bad at bad; omega
  refine ⟨vp_in_nI ht (by omega), nm_r (show _ = upd yat t z0 by rw [nI_clamp (by omega)]) (y_takes hp hn hF hf la bad ⟨vp_in_nI ht (by omega), nm_r (show _ = upd yhi t (nI (h - pl_tk (re_b M p) a)) by rw [nI_clamp (by omega), pk_sub htk]) ?_⟩)⟩
  refine pk_eq c 2 (fun e => ?_) k
  obtain ⟨o5, q⟩ := k2 e
  have e5 : nI t * 5 + nI o = nI (t * 5 + o) := by rw [show nI t * 5 = nI (t * 5) from pk_mul t 5, nI_add]
  rw [e5, nI_clamp (by omega)]
  exact ⟨vp_in_nI (by omega) (by omega), nm_e q⟩
theorem y_237 {post : Int32 → SY → Prop} {t a p h o c x : Nat} {vv uu : Int32} (hc : c ≤ 16)
    (k : wY_step_256 post (nI p) (nI x) (nI t) (nI (p * 120 + a)) (nI c) (nI o) (nI h) vv uu (nI (p * 120 + (a + pl_sz c))) (nI t) yru ypl ynu yps yfi yac yre yme yrp yrq yrl yby yle ypr ywa ybp ybq ybo ysc yfn yat yhi ylo yen) : wY_step_237 post (nI p) (nI x) (nI t) (nI (p * 120 + a)) (nI c) (nI o) (nI h) vv uu (nI t) yru ypl ynu yps yfi yac yre yme yrp yrq yrl yby yle ypr ywa ybp ybq ybo ysc yfn yat yhi ylo yen := by
  refine y_wide (show c < 256 by omega) (fun w => br_f ba_10 ?_) fun w => br_t rfl ?_
  · rw [show nI (p * 120 + a) + 2 = nI (p * 120 + (a + 2)) from nI_add _ 2]
    rw [w] at k; exact k
  · rw [show nI (p * 120 + a) + 1 = nI (p * 120 + (a + 1)) from nI_1 _]
    rw [w] at k; exact k

theorem y_op0 {post : Int32 → SY → Prop} {t a p g o x f : Nat} (ht : t < 6) (hp : p ≤ 3) (hx : x < 4) (ha : a + 1 < 120) (hn : n ≤ 120) (hF : pl_Fmt (re_b M p) n) (hf : f < pl_nf (re_b M p)) (la : a < pl_e (re_b M p) f) (bad : ¬ pl_bad (re_b M p) f a) (hc : re_b M p a = 0) (ho : re_b M p (a + 1) = o) (hh : yhi t = nI (g)) (h6 : g ≤ 6)  (h6' : g < 6)
    (k : post (-1) (yru, ypl, ynu, yps, yfi, nI (t + 1), yre, yme, yrp, yrq, yrl, fun i => nI (M i), yle, ypr, ywa, ybp, ybq, ybo, ysc, yfn, upd yat t (nI (p * 120 + (a + 2))), upd (upd yhi t (nI g)) t (nI (g + 1)), ylo, upd yen (t * 7 + g) (nI o).toInt8.toInt32)) : wY_step_79 post (nI p) (nI x) (nI t) (nI (p * 120 + a)) (nI 0) yru ypl ynu yps yfi (nI (t + 1)) yre yme yrp yrq yrl (fun i => nI (M i)) yle ypr ywa ybp ybq ybo ysc yfn yat yhi ylo yen := by
  have tk : pl_tk (re_b M p) a = 0 := by simp [pl_tk, hc]
  obtain ⟨vv, v0, v1⟩ : ∃ vv : Int32, (g = 0 → vv = 0) ∧ ∀ q, g = q + 1 → vv = yen (t * 7 + q) := by
    cases g with
    | zero => exact ⟨0, fun _ => rfl, fun q e => absurd e (by omega)⟩
    | succ g => exact ⟨yen (t * 7 + g), fun e => absurd e (by omega), fun q e => by rw [show g = q by omega]⟩
  obtain ⟨uu, u0, u1⟩ : ∃ uu : Int32, (g ≤ 1 → uu = 0) ∧ ∀ q, g = q + 2 → uu = yen (t * 7 + q) := by
    by_cases e : g ≤ 1
    · exact ⟨0, fun _ => rfl, fun q e' => absurd e (by omega)⟩
    · exact ⟨yen (t * 7 + (g - 2)), fun e' => absurd e' e, fun q e' => by rw [show g - 2 = q by omega]⟩
  refine y_front (c := 0) (o := o) (vv := vv) (uu := uu) ht hp (Or.inl ha) (by omega) (fun _ => ho) (fun q => absurd q (by decide)) hh h6 v0 v1 u0 u1 ?_
  refine br_f (by decide) (br_f (by decide) (br_f (by decide) (br_f (by decide) (br_f (by decide) (y_237 (c := 0) (by omega) (y_256 (c := 0) (h := g) ht hp hn hF hf la bad hc (by omega) h6 (fun e => ?_) fun e => ?_))))))
  · exact absurd e (by decide)
  · rw [tk, show g - 0 = g by omega]
    exact br_f (by decide) (br_f (by decide) (br_f (by decide) (y_gives (c := 0) (by omega) (br_f (by decide) (br_t (by decide) (y_give ht (h := g) pk_us (by omega) k))))))
theorem y_op1 {post : Int32 → SY → Prop} {t a p g o x f : Nat} (ht : t < 6) (hp : p ≤ 3) (hx : x < 4) (ha : a + 1 < 120) (hn : n ≤ 120) (hF : pl_Fmt (re_b M p) n) (hf : f < pl_nf (re_b M p)) (la : a < pl_e (re_b M p) f) (bad : ¬ pl_bad (re_b M p) f a) (hc : re_b M p a = 1) (ho : re_b M p (a + 1) = o) (hh : yhi t = nI (g)) (h6 : g ≤ 6)  (h6' : g < 6) (ho5 : o < 5)
    (k : post (-1) (yru, ypl, ynu, yps, yfi, nI (t + 1), yre, yme, yrp, yrq, yrl, fun i => nI (M i), yle, ypr, ywa, ybp, ybq, ybo, ysc, yfn, upd yat t (nI (p * 120 + (a + 2))), upd (upd yhi t (nI g)) t (nI (g + 1)), ylo, upd yen (t * 7 + g) (ylo (t * 5 + o)))) : wY_step_79 post (nI p) (nI x) (nI t) (nI (p * 120 + a)) (nI 1) yru ypl ynu yps yfi (nI (t + 1)) yre yme yrp yrq yrl (fun i => nI (M i)) yle ypr ywa ybp ybq ybo ysc yfn yat yhi ylo yen := by
  have tk : pl_tk (re_b M p) a = 0 := by simp [pl_tk, hc]
  obtain ⟨vv, v0, v1⟩ : ∃ vv : Int32, (g = 0 → vv = 0) ∧ ∀ q, g = q + 1 → vv = yen (t * 7 + q) := by
    cases g with
    | zero => exact ⟨0, fun _ => rfl, fun q e => absurd e (by omega)⟩
    | succ g => exact ⟨yen (t * 7 + g), fun e => absurd e (by omega), fun q e => by rw [show g = q by omega]⟩
  obtain ⟨uu, u0, u1⟩ : ∃ uu : Int32, (g ≤ 1 → uu = 0) ∧ ∀ q, g = q + 2 → uu = yen (t * 7 + q) := by
    by_cases e : g ≤ 1
    · exact ⟨0, fun _ => rfl, fun q e' => absurd e (by omega)⟩
    · exact ⟨yen (t * 7 + (g - 2)), fun e' => absurd e' e, fun q e' => by rw [show g - 2 = q by omega]⟩
  refine y_front (c := 1) (o := o) (vv := vv) (uu := uu) ht hp (Or.inl ha) (by omega) (fun _ => ho) (fun q => absurd q (by decide)) hh h6 v0 v1 u0 u1 ?_
  refine br_f (by decide) (br_f (by decide) (br_f (by decide) (br_f (by decide) (br_f (by decide) (y_237 (c := 1) (by omega) (y_256 (c := 1) (h := g) ht hp hn hF hf la bad hc (by omega) h6 (fun e => ?_) fun e => ?_))))))
  · exact absurd e (by decide)
  · rw [tk, show g - 0 = g by omega]
    refine br_f (by decide) (br_f (by decide) (br_f (by decide) (y_gives (c := 1) (by omega) (br_f (by decide) (br_f (by decide) (br_t (by decide) ?_))))))
    rw [show nI t * 5 + nI o = nI (t * 5 + o) by rw [show nI t * 5 = nI (t * 5) from pk_mul t 5, nI_add], nI_clamp (by omega)]
    exact ⟨vp_in_nI (by omega) (by omega), y_give ht (h := g) pk_us (by omega) k⟩
theorem y_op2 {post : Int32 → SY → Prop} {t a p g o x f : Nat} (ht : t < 6) (hp : p ≤ 3) (hx : x < 4) (ha : a + 1 < 120) (hn : n ≤ 120) (hF : pl_Fmt (re_b M p) n) (hf : f < pl_nf (re_b M p)) (la : a < pl_e (re_b M p) f) (bad : ¬ pl_bad (re_b M p) f a) (hc : re_b M p a = 2) (ho : re_b M p (a + 1) = o) (hh : yhi t = nI (g + 1)) (h6 : g + 1 ≤ 6) (ho5 : o < 5)
    (k : post (-1) (yru, ypl, ynu, yps, yfi, nI (t + 1), yre, yme, yrp, yrq, yrl, fun i => nI (M i), yle, ypr, ywa, ybp, ybq, ybo, ysc, yfn, upd yat t (nI (p * 120 + (a + 2))), upd yhi t (nI g), upd ylo (t * 5 + o) (yen (t * 7 + g)), yen)) : wY_step_79 post (nI p) (nI x) (nI t) (nI (p * 120 + a)) (nI 2) yru ypl ynu yps yfi (nI (t + 1)) yre yme yrp yrq yrl (fun i => nI (M i)) yle ypr ywa ybp ybq ybo ysc yfn yat yhi ylo yen := by
  have tk : pl_tk (re_b M p) a = 1 := by simp [pl_tk, hc]
  have v0 : g + 1 = 0 → (yen (t * 7 + g)) = 0 := fun e => absurd e (by omega)
  have v1 : ∀ q, g + 1 = q + 1 → (yen (t * 7 + g)) = yen (t * 7 + q) := fun q e => by rw [show q = g by omega]
  obtain ⟨uu, u0, u1⟩ : ∃ uu : Int32, (g + 1 ≤ 1 → uu = 0) ∧ ∀ q, g + 1 = q + 2 → uu = yen (t * 7 + q) := by
    by_cases e : g + 1 ≤ 1
    · exact ⟨0, fun _ => rfl, fun q e' => absurd e (by omega)⟩
    · exact ⟨yen (t * 7 + (g + 1 - 2)), fun e' => absurd e' e, fun q e' => by rw [show g + 1 - 2 = q by omega]⟩
  refine y_front (c := 2) (o := o) (vv := (yen (t * 7 + g))) (uu := uu) ht hp (Or.inl ha) (by omega) (fun _ => ho) (fun q => absurd q (by decide)) hh h6 v0 v1 u0 u1 ?_
  refine br_f (by decide) (br_f (by decide) (br_f (by decide) (br_f (by decide) (br_f (by decide) (y_237 (c := 2) (by omega) (y_256 (c := 2) (h := g + 1) ht hp hn hF hf la bad hc (by omega) h6 (fun e => ?_) fun e => ?_))))))
  · refine ⟨ho5, ?_⟩
    rw [tk, show g + 1 - 1 = g by omega]
    exact br_f (by decide) (br_f (by decide) (br_f (by decide) (y_gives (c := 2) (by omega) (br_t (by decide) k))))
  · exact absurd rfl e
theorem y_op3 {post : Int32 → SY → Prop} {t a p g o x f : Nat} (ht : t < 6) (hp : p ≤ 3) (hx : x < 4) (ha : a + 1 < 120) (hn : n ≤ 120) (hF : pl_Fmt (re_b M p) n) (hf : f < pl_nf (re_b M p)) (la : a < pl_e (re_b M p) f) (bad : ¬ pl_bad (re_b M p) f a) (hc : re_b M p a = 3) (hh : yhi t = nI (g + 2)) (h6 : g + 2 ≤ 6) (h6' : g < 6)
    (k : ∀ v, v = al_v 3 (yen (t * 7 + g)) (yen (t * 7 + (g + 1))) → post (-1) (yru, ypl, ynu, yps, yfi, nI (t + 1), yre, yme, yrp, yrq, yrl, fun i => nI (M i), yle, ypr, ywa, ybp, ybq, ybo, ysc, yfn, upd yat t (nI (p * 120 + (a + 1))), upd (upd yhi t (nI g)) t (nI (g + 1)), ylo, upd yen (t * 7 + g) v)) : wY_step_79 post (nI p) (nI x) (nI t) (nI (p * 120 + a)) (nI 3) yru ypl ynu yps yfi (nI (t + 1)) yre yme yrp yrq yrl (fun i => nI (M i)) yle ypr ywa ybp ybq ybo ysc yfn yat yhi ylo yen := by
  have tk : pl_tk (re_b M p) a = 2 := by simp [pl_tk, hc]
  have v0 : g + 2 = 0 → (yen (t * 7 + (g + 1))) = 0 := fun e => absurd e (by omega)
  have v1 : ∀ q, g + 2 = q + 1 → (yen (t * 7 + (g + 1))) = yen (t * 7 + q) := fun q e => by rw [show q = g + 1 by omega]
  have u0 : g + 2 ≤ 1 → (yen (t * 7 + g)) = 0 := fun e => absurd e (by omega)
  have u1 : ∀ q, g + 2 = q + 2 → (yen (t * 7 + g)) = yen (t * 7 + q) := fun q e => by rw [show q = g by omega]
  refine y_front (c := 3) (o := 0) (vv := (yen (t * 7 + (g + 1)))) (uu := (yen (t * 7 + g))) ht hp (Or.inl ha) (by omega) (fun q => absurd q (by decide)) (fun _ => rfl) hh h6 v0 v1 u0 u1 ?_
  refine br_f (by decide) (br_f (by decide) (br_f (by decide) (br_f (by decide) (br_f (by decide) (y_237 (c := 3) (by omega) (y_256 (c := 3) (h := g + 2) ht hp hn hF hf la bad hc (by omega) h6 (fun e => ?_) fun e => ?_))))))
  · exact absurd e (by decide)
  · rw [tk, show g + 2 - 2 = g by omega]
    exact br_f (by decide) (br_f (by decide) (br_f (by decide) (y_gives (c := 3) (by omega) (br_f (by decide) (br_f (by decide) (br_f (by decide) (br_f (by decide) (br_f (by decide) (br_t (by decide) (y_give ht (h := g) pk_us (by omega) (k _ rfl)))))))))))
theorem y_op4 {post : Int32 → SY → Prop} {t a p g o x f : Nat} (ht : t < 6) (hp : p ≤ 3) (hx : x < 4) (ha : a + 1 < 120) (hn : n ≤ 120) (hF : pl_Fmt (re_b M p) n) (hf : f < pl_nf (re_b M p)) (la : a < pl_e (re_b M p) f) (bad : ¬ pl_bad (re_b M p) f a) (hc : re_b M p a = 4) (hh : yhi t = nI (g + 2)) (h6 : g + 2 ≤ 6) (h6' : g < 6)
    (k : ∀ v, v = al_v 4 (yen (t * 7 + g)) (yen (t * 7 + (g + 1))) → post (-1) (yru, ypl, ynu, yps, yfi, nI (t + 1), yre, yme, yrp, yrq, yrl, fun i => nI (M i), yle, ypr, ywa, ybp, ybq, ybo, ysc, yfn, upd yat t (nI (p * 120 + (a + 1))), upd (upd yhi t (nI g)) t (nI (g + 1)), ylo, upd yen (t * 7 + g) v)) : wY_step_79 post (nI p) (nI x) (nI t) (nI (p * 120 + a)) (nI 4) yru ypl ynu yps yfi (nI (t + 1)) yre yme yrp yrq yrl (fun i => nI (M i)) yle ypr ywa ybp ybq ybo ysc yfn yat yhi ylo yen := by
  have tk : pl_tk (re_b M p) a = 2 := by simp [pl_tk, hc]
  have v0 : g + 2 = 0 → (yen (t * 7 + (g + 1))) = 0 := fun e => absurd e (by omega)
  have v1 : ∀ q, g + 2 = q + 1 → (yen (t * 7 + (g + 1))) = yen (t * 7 + q) := fun q e => by rw [show q = g + 1 by omega]
  have u0 : g + 2 ≤ 1 → (yen (t * 7 + g)) = 0 := fun e => absurd e (by omega)
  have u1 : ∀ q, g + 2 = q + 2 → (yen (t * 7 + g)) = yen (t * 7 + q) := fun q e => by rw [show q = g by omega]
  refine y_front (c := 4) (o := 0) (vv := (yen (t * 7 + (g + 1)))) (uu := (yen (t * 7 + g))) ht hp (Or.inl ha) (by omega) (fun q => absurd q (by decide)) (fun _ => rfl) hh h6 v0 v1 u0 u1 ?_
  refine br_f (by decide) (br_f (by decide) (br_f (by decide) (br_f (by decide) (br_f (by decide) (y_237 (c := 4) (by omega) (y_256 (c := 4) (h := g + 2) ht hp hn hF hf la bad hc (by omega) h6 (fun e => ?_) fun e => ?_))))))
  · exact absurd e (by decide)
  · rw [tk, show g + 2 - 2 = g by omega]
    exact br_f (by decide) (br_f (by decide) (br_f (by decide) (y_gives (c := 4) (by omega) (br_f (by decide) (br_f (by decide) (br_f (by decide) (br_f (by decide) (br_f (by decide) (br_f (by decide) (br_t (by decide) (y_give ht (h := g) pk_us (by omega) (k _ rfl))))))))))))
theorem y_op5 {post : Int32 → SY → Prop} {t a p g o x f : Nat} (ht : t < 6) (hp : p ≤ 3) (hx : x < 4) (ha : a + 1 < 120) (hn : n ≤ 120) (hF : pl_Fmt (re_b M p) n) (hf : f < pl_nf (re_b M p)) (la : a < pl_e (re_b M p) f) (bad : ¬ pl_bad (re_b M p) f a) (hc : re_b M p a = 5) (hh : yhi t = nI (g + 2)) (h6 : g + 2 ≤ 6) (h6' : g < 6)
    (k : ∀ v, v = al_v 5 (yen (t * 7 + g)) (yen (t * 7 + (g + 1))) → post (-1) (yru, ypl, ynu, yps, yfi, nI (t + 1), yre, yme, yrp, yrq, yrl, fun i => nI (M i), yle, ypr, ywa, ybp, ybq, ybo, ysc, yfn, upd yat t (nI (p * 120 + (a + 1))), upd (upd yhi t (nI g)) t (nI (g + 1)), ylo, upd yen (t * 7 + g) v)) : wY_step_79 post (nI p) (nI x) (nI t) (nI (p * 120 + a)) (nI 5) yru ypl ynu yps yfi (nI (t + 1)) yre yme yrp yrq yrl (fun i => nI (M i)) yle ypr ywa ybp ybq ybo ysc yfn yat yhi ylo yen := by
  have tk : pl_tk (re_b M p) a = 2 := by simp [pl_tk, hc]
  have v0 : g + 2 = 0 → (yen (t * 7 + (g + 1))) = 0 := fun e => absurd e (by omega)
  have v1 : ∀ q, g + 2 = q + 1 → (yen (t * 7 + (g + 1))) = yen (t * 7 + q) := fun q e => by rw [show q = g + 1 by omega]
  have u0 : g + 2 ≤ 1 → (yen (t * 7 + g)) = 0 := fun e => absurd e (by omega)
  have u1 : ∀ q, g + 2 = q + 2 → (yen (t * 7 + g)) = yen (t * 7 + q) := fun q e => by rw [show q = g by omega]
  refine y_front (c := 5) (o := 0) (vv := (yen (t * 7 + (g + 1)))) (uu := (yen (t * 7 + g))) ht hp (Or.inl ha) (by omega) (fun q => absurd q (by decide)) (fun _ => rfl) hh h6 v0 v1 u0 u1 ?_
  refine br_f (by decide) (br_f (by decide) (br_f (by decide) (br_f (by decide) (br_f (by decide) (y_237 (c := 5) (by omega) (y_256 (c := 5) (h := g + 2) ht hp hn hF hf la bad hc (by omega) h6 (fun e => ?_) fun e => ?_))))))
  · exact absurd e (by decide)
  · rw [tk, show g + 2 - 2 = g by omega]
    exact br_f (by decide) (br_f (by decide) (br_f (by decide) (y_gives (c := 5) (by omega) (br_f (by decide) (br_f (by decide) (br_f (by decide) (br_f (by decide) (br_f (by decide) (br_f (by decide) (br_f (by decide) (br_t (by decide) (y_give ht (h := g) pk_us (by omega) (k _ rfl)))))))))))))
theorem y_op6 {post : Int32 → SY → Prop} {t a p g o x f : Nat} (ht : t < 6) (hp : p ≤ 3) (hx : x < 4) (ha : a + 1 < 120) (hn : n ≤ 120) (hF : pl_Fmt (re_b M p) n) (hf : f < pl_nf (re_b M p)) (la : a < pl_e (re_b M p) f) (bad : ¬ pl_bad (re_b M p) f a) (hc : re_b M p a = 6) (hh : yhi t = nI (g + 2)) (h6 : g + 2 ≤ 6) (h6' : g < 6)
    (kd : yen (t * 7 + (g + 1)) = 0 → post 2 (yru, ypl, ynu, yps, yfi, nI (t + 1), yre, yme, yrp, yrq, yrl, fun i => nI (M i), yle, ypr, ywa, ybp, ybq, ybo, ysc, yfn, yat, yhi, ylo, yen)) (k : ¬ yen (t * 7 + (g + 1)) = 0 → ∀ v, v = al_v 6 (yen (t * 7 + g)) (yen (t * 7 + (g + 1))) → post (-1) (yru, ypl, ynu, yps, yfi, nI (t + 1), yre, yme, yrp, yrq, yrl, fun i => nI (M i), yle, ypr, ywa, ybp, ybq, ybo, ysc, yfn, upd yat t (nI (p * 120 + (a + 1))), upd (upd yhi t (nI g)) t (nI (g + 1)), ylo, upd yen (t * 7 + g) v)) : wY_step_79 post (nI p) (nI x) (nI t) (nI (p * 120 + a)) (nI 6) yru ypl ynu yps yfi (nI (t + 1)) yre yme yrp yrq yrl (fun i => nI (M i)) yle ypr ywa ybp ybq ybo ysc yfn yat yhi ylo yen := by
  have tk : pl_tk (re_b M p) a = 2 := by simp [pl_tk, hc]
  have v0 : g + 2 = 0 → (yen (t * 7 + (g + 1))) = 0 := fun e => absurd e (by omega)
  have v1 : ∀ q, g + 2 = q + 1 → (yen (t * 7 + (g + 1))) = yen (t * 7 + q) := fun q e => by rw [show q = g + 1 by omega]
  have u0 : g + 2 ≤ 1 → (yen (t * 7 + g)) = 0 := fun e => absurd e (by omega)
  have u1 : ∀ q, g + 2 = q + 2 → (yen (t * 7 + g)) = yen (t * 7 + q) := fun q e => by rw [show q = g by omega]
  refine y_front (c := 6) (o := 0) (vv := (yen (t * 7 + (g + 1)))) (uu := (yen (t * 7 + g))) ht hp (Or.inl ha) (by omega) (fun q => absurd q (by decide)) (fun _ => rfl) hh h6 v0 v1 u0 u1 ?_
  by_cases nz : yen (t * 7 + (g + 1)) = 0
  · exact br_t (by decide) (br_t nz (kd nz))
  refine br_t (by decide) (br_f nz (br_f (by decide) (br_f (by decide) (br_f (by decide) (br_f (by decide) (y_237 (c := 6) (by omega) (y_256 (c := 6) (h := g + 2) ht hp hn hF hf la bad hc (by omega) h6 (fun e => ?_) fun e => ?_)))))))
  · exact absurd e (by decide)
  · rw [tk, show g + 2 - 2 = g by omega]
    exact br_f (by decide) (br_f (by decide) (br_f (by decide) (y_gives (c := 6) (by omega) (br_f (by decide) (br_f (by decide) (br_f (by decide) (br_f (by decide) (br_f (by decide) (br_f (by decide) (br_f (by decide) (br_f (by decide) (br_t (by decide) (br_f nz ⟨nz, y_give ht (h := g) pk_us (by omega) (k nz _ rfl)⟩)))))))))))))
theorem y_op7 {post : Int32 → SY → Prop} {t a p g o x f : Nat} (ht : t < 6) (hp : p ≤ 3) (hx : x < 4) (ha : a + 1 < 120) (hn : n ≤ 120) (hF : pl_Fmt (re_b M p) n) (hf : f < pl_nf (re_b M p)) (la : a < pl_e (re_b M p) f) (bad : ¬ pl_bad (re_b M p) f a) (hc : re_b M p a = 7) (hh : yhi t = nI (g + 2)) (h6 : g + 2 ≤ 6) (h6' : g < 6)
    (k : ∀ v, v = al_v 7 (yen (t * 7 + g)) (yen (t * 7 + (g + 1))) → post (-1) (yru, ypl, ynu, yps, yfi, nI (t + 1), yre, yme, yrp, yrq, yrl, fun i => nI (M i), yle, ypr, ywa, ybp, ybq, ybo, ysc, yfn, upd yat t (nI (p * 120 + (a + 1))), upd (upd yhi t (nI g)) t (nI (g + 1)), ylo, upd yen (t * 7 + g) v)) : wY_step_79 post (nI p) (nI x) (nI t) (nI (p * 120 + a)) (nI 7) yru ypl ynu yps yfi (nI (t + 1)) yre yme yrp yrq yrl (fun i => nI (M i)) yle ypr ywa ybp ybq ybo ysc yfn yat yhi ylo yen := by
  have tk : pl_tk (re_b M p) a = 2 := by simp [pl_tk, hc]
  have v0 : g + 2 = 0 → (yen (t * 7 + (g + 1))) = 0 := fun e => absurd e (by omega)
  have v1 : ∀ q, g + 2 = q + 1 → (yen (t * 7 + (g + 1))) = yen (t * 7 + q) := fun q e => by rw [show q = g + 1 by omega]
  have u0 : g + 2 ≤ 1 → (yen (t * 7 + g)) = 0 := fun e => absurd e (by omega)
  have u1 : ∀ q, g + 2 = q + 2 → (yen (t * 7 + g)) = yen (t * 7 + q) := fun q e => by rw [show q = g by omega]
  refine y_front (c := 7) (o := 0) (vv := (yen (t * 7 + (g + 1)))) (uu := (yen (t * 7 + g))) ht hp (Or.inl ha) (by omega) (fun q => absurd q (by decide)) (fun _ => rfl) hh h6 v0 v1 u0 u1 ?_
  refine br_f (by decide) (br_f (by decide) (br_f (by decide) (br_f (by decide) (br_f (by decide) (y_237 (c := 7) (by omega) (y_256 (c := 7) (h := g + 2) ht hp hn hF hf la bad hc (by omega) h6 (fun e => ?_) fun e => ?_))))))
  · exact absurd e (by decide)
  · rw [tk, show g + 2 - 2 = g by omega]
    refine br_f (by decide) (br_f (by decide) (br_f (by decide) (y_gives (c := 7) (by omega) (br_f (by decide) (br_f (by decide) (br_f (by decide) (br_f (by decide) (br_f (by decide) (br_f (by decide) (br_f (by decide) (br_f (by decide) (br_f (by decide) (br_c (fun z => ?_) fun z => ?_)))))))))))))
    · exact y_give ht (h := g) pk_us (by omega) (k _ (by show 0 = if _ then (0 : Int32) else 1; rw [if_pos z]))
    · exact y_give ht (h := g) pk_us (by omega) (k _ (by show 1 = if _ then (0 : Int32) else 1; rw [if_neg z]))
theorem y_op8 {post : Int32 → SY → Prop} {t a p g o x f : Nat} (ht : t < 6) (hp : p ≤ 3) (hx : x < 4) (ha : a + 1 < 120) (hn : n ≤ 120) (hF : pl_Fmt (re_b M p) n) (hf : f < pl_nf (re_b M p)) (la : a < pl_e (re_b M p) f) (bad : ¬ pl_bad (re_b M p) f a) (hc : re_b M p a = 8) (hh : yhi t = nI (g + 1)) (h6 : g + 1 ≤ 6) (h6' : g < 5)
    (k : post (-1) (yru, ypl, ynu, yps, yfi, nI (t + 1), yre, yme, yrp, yrq, yrl, fun i => nI (M i), yle, ypr, ywa, ybp, ybq, ybo, ysc, yfn, upd yat t (nI (p * 120 + (a + 1))), upd (upd (upd yhi t (nI g)) t (nI (g + 1))) t (nI (g + 1 + 1)), ylo, upd (upd yen (t * 7 + g) (yen (t * 7 + g))) (t * 7 + (g + 1)) (yen (t * 7 + g)))) : wY_step_79 post (nI p) (nI x) (nI t) (nI (p * 120 + a)) (nI 8) yru ypl ynu yps yfi (nI (t + 1)) yre yme yrp yrq yrl (fun i => nI (M i)) yle ypr ywa ybp ybq ybo ysc yfn yat yhi ylo yen := by
  have tk : pl_tk (re_b M p) a = 1 := by simp [pl_tk, hc]
  have v0 : g + 1 = 0 → (yen (t * 7 + g)) = 0 := fun e => absurd e (by omega)
  have v1 : ∀ q, g + 1 = q + 1 → (yen (t * 7 + g)) = yen (t * 7 + q) := fun q e => by rw [show q = g by omega]
  obtain ⟨uu, u0, u1⟩ : ∃ uu : Int32, (g + 1 ≤ 1 → uu = 0) ∧ ∀ q, g + 1 = q + 2 → uu = yen (t * 7 + q) := by
    by_cases e : g + 1 ≤ 1
    · exact ⟨0, fun _ => rfl, fun q e' => absurd e (by omega)⟩
    · exact ⟨yen (t * 7 + (g + 1 - 2)), fun e' => absurd e' e, fun q e' => by rw [show g + 1 - 2 = q by omega]⟩
  refine y_front (c := 8) (o := 0) (vv := (yen (t * 7 + g))) (uu := uu) ht hp (Or.inl ha) (by omega) (fun q => absurd q (by decide)) (fun _ => rfl) hh h6 v0 v1 u0 u1 ?_
  refine br_f (by decide) (br_f (by decide) (br_f (by decide) (br_f (by decide) (br_f (by decide) (y_237 (c := 8) (by omega) (y_256 (c := 8) (h := g + 1) ht hp hn hF hf la bad hc (by omega) h6 (fun e => ?_) fun e => ?_))))))
  · exact absurd e (by decide)
  · rw [tk, show g + 1 - 1 = g by omega]
    refine br_f (by decide) (br_t (by decide) ?_)
    refine y_give ht (h := g) pk_us (by omega) ?_
    exact br_f (by decide) (y_gives (c := 8) (by omega) (br_f (by decide) (br_f (by decide) (br_f (by decide) (br_t (by decide) (y_give ht (h := g + 1) pk_us (by omega) k))))))
theorem y_op9 {post : Int32 → SY → Prop} {t a p g o x f : Nat} (ht : t < 6) (hp : p ≤ 3) (hx : x < 4) (ha : a + 1 < 120) (hn : n ≤ 120) (hF : pl_Fmt (re_b M p) n) (hf : f < pl_nf (re_b M p)) (la : a < pl_e (re_b M p) f) (bad : ¬ pl_bad (re_b M p) f a) (hc : re_b M p a = 9) (hh : yhi t = nI (g + 1)) (h6 : g + 1 ≤ 6)
    (k : post (-1) (yru, ypl, ynu, yps, yfi, nI (t + 1), yre, yme, yrp, yrq, yrl, fun i => nI (M i), yle, ypr, ywa, ybp, ybq, ybo, ysc, yfn, upd yat t (nI (p * 120 + (a + 1))), upd yhi t (nI g), ylo, yen)) : wY_step_79 post (nI p) (nI x) (nI t) (nI (p * 120 + a)) (nI 9) yru ypl ynu yps yfi (nI (t + 1)) yre yme yrp yrq yrl (fun i => nI (M i)) yle ypr ywa ybp ybq ybo ysc yfn yat yhi ylo yen := by
  have tk : pl_tk (re_b M p) a = 1 := by simp [pl_tk, hc]
  have v0 : g + 1 = 0 → (yen (t * 7 + g)) = 0 := fun e => absurd e (by omega)
  have v1 : ∀ q, g + 1 = q + 1 → (yen (t * 7 + g)) = yen (t * 7 + q) := fun q e => by rw [show q = g by omega]
  obtain ⟨uu, u0, u1⟩ : ∃ uu : Int32, (g + 1 ≤ 1 → uu = 0) ∧ ∀ q, g + 1 = q + 2 → uu = yen (t * 7 + q) := by
    by_cases e : g + 1 ≤ 1
    · exact ⟨0, fun _ => rfl, fun q e' => absurd e (by omega)⟩
    · exact ⟨yen (t * 7 + (g + 1 - 2)), fun e' => absurd e' e, fun q e' => by rw [show g + 1 - 2 = q by omega]⟩
  refine y_front (c := 9) (o := 0) (vv := (yen (t * 7 + g))) (uu := uu) ht hp (Or.inl ha) (by omega) (fun q => absurd q (by decide)) (fun _ => rfl) hh h6 v0 v1 u0 u1 ?_
  refine br_f (by decide) (br_f (by decide) (br_f (by decide) (br_f (by decide) (br_f (by decide) (y_237 (c := 9) (by omega) (y_256 (c := 9) (h := g + 1) ht hp hn hF hf la bad hc (by omega) h6 (fun e => ?_) fun e => ?_))))))
  · exact absurd e (by decide)
  · rw [tk, show g + 1 - 1 = g by omega]
    exact br_f (by decide) (br_f (by decide) (br_f (by decide) (y_gives (c := 9) (by omega) (br_t (by decide) k))))
theorem y_op13 {post : Int32 → SY → Prop} {t a p g o x f : Nat} (ht : t < 6) (hp : p ≤ 3) (hx : x < 4) (ha : a + 1 < 120) (hn : n ≤ 120) (hF : pl_Fmt (re_b M p) n) (hf : f < pl_nf (re_b M p)) (la : a < pl_e (re_b M p) f) (bad : ¬ pl_bad (re_b M p) f a) (hc : re_b M p a = 13) (ho : re_b M p (a + 1) = o) (hh : yhi t = nI (g + 1)) (h6 : g + 1 ≤ 6) (ho4 : o < 4) {A B C : Int32} (hA : nI (re_b M p (2 + 3 * o)) = A) (hB : nI (re_b M p (2 + 3 * o + 1)) = B) (hC : nI (re_b M p (2 + 3 * o + 2)) = C)
    (k : ∀ hm, hm = ho_m yme (yen (t * 7 + g)) A B C → post (-1) (yru, ypl, ynu, yps, yfi, nI (t + 1), yre, hm, yrp, yrq, yrl, fun i => nI (M i), yle, ypr, ywa, ybp, ybq, ybo, ysc, yfn, upd yat t (nI (p * 120 + (a + 2))), upd (upd yhi t (nI g)) t (nI (g + 1)), ylo, upd yen (t * 7 + g) (ho_a hm))) : wY_step_79 post (nI p) (nI x) (nI t) (nI (p * 120 + a)) (nI 13) yru ypl ynu yps yfi (nI (t + 1)) yre yme yrp yrq yrl (fun i => nI (M i)) yle ypr ywa ybp ybq ybo ysc yfn yat yhi ylo yen := by
  have tk : pl_tk (re_b M p) a = 1 := by simp [pl_tk, hc]
  have v0 : g + 1 = 0 → (yen (t * 7 + g)) = 0 := fun e => absurd e (by omega)
  have v1 : ∀ q, g + 1 = q + 1 → (yen (t * 7 + g)) = yen (t * 7 + q) := fun q e => by rw [show q = g by omega]
  obtain ⟨uu, u0, u1⟩ : ∃ uu : Int32, (g + 1 ≤ 1 → uu = 0) ∧ ∀ q, g + 1 = q + 2 → uu = yen (t * 7 + q) := by
    by_cases e : g + 1 ≤ 1
    · exact ⟨0, fun _ => rfl, fun q e' => absurd e (by omega)⟩
    · exact ⟨yen (t * 7 + (g + 1 - 2)), fun e' => absurd e' e, fun q e' => by rw [show g + 1 - 2 = q by omega]⟩
  refine y_front (c := 13) (o := o) (vv := (yen (t * 7 + g))) (uu := uu) ht hp (Or.inl ha) (by omega) (fun _ => ho) (fun q => absurd q (by decide)) hh h6 v0 v1 u0 u1 ?_
  refine br_f (by decide) (br_f (by decide) (br_f (by decide) (br_f (by decide) (br_f (by decide) (y_237 (c := 13) (by omega) (y_256 (c := 13) (h := g + 1) ht hp hn hF hf la bad hc (by omega) h6 (fun e => ?_) fun e => ?_))))))
  · exact absurd e (by decide)
  · rw [tk, show g + 1 - 1 = g by omega]
    refine br_f (by decide) (br_f (by decide) (br_t (by decide) ?_))
    rw [show nI p * 120 + 2 + nI o * 3 = nI (p * 120 + (2 + 3 * o)) by
      rw [show nI p * 120 = nI (p * 120) from pk_mul p 120, show nI (p * 120) + 2 = nI (p * 120 + 2) from nI_add _ 2, show nI o * 3 = nI (o * 3) from pk_mul o 3, nI_add]
      exact congrArg nI (by omega)]
    unfold wpY_host
    dsimp only
    rw [show nI (p * 120 + (2 + 3 * o)) + 1 = nI (p * 120 + (2 + 3 * o + 1)) from nI_1 _, show nI (p * 120 + (2 + 3 * o)) + 2 = nI (p * 120 + (2 + 3 * o + 2)) from nI_add _ 2, y_rd hp (by omega), y_rd hp (by omega), y_rd hp (by omega), hA, hB, hC]
    exact ⟨vp_in_nI (by omega) (by omega), vp_in_nI (by omega) (by omega), vp_in_nI (by omega) (by omega), nm_e (y_give ht (h := g) pk_us (by omega) (k _ rfl))⟩
theorem y_op14 {post : Int32 → SY → Prop} {t a p g o x f : Nat} (ht : t < 6) (hp : p ≤ 3) (hx : x < 4) (ha : a + 1 < 120) (hn : n ≤ 120) (hF : pl_Fmt (re_b M p) n) (hf : f < pl_nf (re_b M p)) (la : a < pl_e (re_b M p) f) (bad : ¬ pl_bad (re_b M p) f a) (hc : re_b M p a = 14) (ho : re_b M p (a + 1) = o) (hh : yhi t = nI (g)) (h6 : g ≤ 6) (h6' : g < 6) (ho4 : o < 4)
    (k : post (-1) (yru, ypl, ynu, yps, yfi, nI (t + 1), yre, yme, yrp, yrq, yrl, fun i => nI (M i), yle, ypr, ywa, ybp, ybq, ybo, ysc, yfn, upd yat t (nI (p * 120 + (a + 2))), upd (upd yhi t (nI g)) t (nI (g + 1)), ylo, upd yen (t * 7 + g) (ysc (x * 4 + o)))) : wY_step_79 post (nI p) (nI x) (nI t) (nI (p * 120 + a)) (nI 14) yru ypl ynu yps yfi (nI (t + 1)) yre yme yrp yrq yrl (fun i => nI (M i)) yle ypr ywa ybp ybq ybo ysc yfn yat yhi ylo yen := by
  have tk : pl_tk (re_b M p) a = 0 := by simp [pl_tk, hc]
  obtain ⟨vv, v0, v1⟩ : ∃ vv : Int32, (g = 0 → vv = 0) ∧ ∀ q, g = q + 1 → vv = yen (t * 7 + q) := by
    cases g with
    | zero => exact ⟨0, fun _ => rfl, fun q e => absurd e (by omega)⟩
    | succ g => exact ⟨yen (t * 7 + g), fun e => absurd e (by omega), fun q e => by rw [show g = q by omega]⟩
  obtain ⟨uu, u0, u1⟩ : ∃ uu : Int32, (g ≤ 1 → uu = 0) ∧ ∀ q, g = q + 2 → uu = yen (t * 7 + q) := by
    by_cases e : g ≤ 1
    · exact ⟨0, fun _ => rfl, fun q e' => absurd e (by omega)⟩
    · exact ⟨yen (t * 7 + (g - 2)), fun e' => absurd e' e, fun q e' => by rw [show g - 2 = q by omega]⟩
  refine y_front (c := 14) (o := o) (vv := vv) (uu := uu) ht hp (Or.inl ha) (by omega) (fun _ => ho) (fun q => absurd q (by decide)) hh h6 v0 v1 u0 u1 ?_
  refine br_f (by decide) (br_f (by decide) (br_f (by decide) (br_f (by decide) (br_f (by decide) (y_237 (c := 14) (by omega) (y_256 (c := 14) (h := g) ht hp hn hF hf la bad hc (by omega) h6 (fun e => ?_) fun e => ?_))))))
  · exact absurd e (by decide)
  · rw [tk, show g - 0 = g by omega]
    refine br_f (by decide) (br_f (by decide) (br_f (by decide) (y_gives (c := 14) (by omega) (br_f (by decide) (br_f (by decide) (br_f (by decide) (br_f (by decide) (br_t (by decide) ?_))))))))
    rw [show nI x * 4 + nI o = nI (x * 4 + o) by rw [show nI x * 4 = nI (x * 4) from pk_mul x 4, nI_add], nI_clamp (by omega)]
    exact ⟨vp_in_nI (by omega) (by omega), y_give ht (h := g) pk_us (by omega) k⟩
theorem y_op15 {post : Int32 → SY → Prop} {t a p g o x f : Nat} (ht : t < 6) (hp : p ≤ 3) (hx : x < 4) (ha : a + 1 < 120) (hn : n ≤ 120) (hF : pl_Fmt (re_b M p) n) (hf : f < pl_nf (re_b M p)) (la : a < pl_e (re_b M p) f) (bad : ¬ pl_bad (re_b M p) f a) (hc : re_b M p a = 15) (ho : re_b M p (a + 1) = o) (hh : yhi t = nI (g + 1)) (h6 : g + 1 ≤ 6) (ho4 : o < 4)
    (k : post (-1) (yru, ypl, ynu, yps, yfi, nI (t + 1), yre, yme, yrp, yrq, yrl, fun i => nI (M i), yle, ypr, ywa, ybp, ybq, ybo, upd ysc (x * 4 + o) (yen (t * 7 + g)), yfn, upd yat t (nI (p * 120 + (a + 2))), upd yhi t (nI g), ylo, yen)) : wY_step_79 post (nI p) (nI x) (nI t) (nI (p * 120 + a)) (nI 15) yru ypl ynu yps yfi (nI (t + 1)) yre yme yrp yrq yrl (fun i => nI (M i)) yle ypr ywa ybp ybq ybo ysc yfn yat yhi ylo yen := by
  have tk : pl_tk (re_b M p) a = 1 := by simp [pl_tk, hc]
  have v0 : g + 1 = 0 → (yen (t * 7 + g)) = 0 := fun e => absurd e (by omega)
  have v1 : ∀ q, g + 1 = q + 1 → (yen (t * 7 + g)) = yen (t * 7 + q) := fun q e => by rw [show q = g by omega]
  obtain ⟨uu, u0, u1⟩ : ∃ uu : Int32, (g + 1 ≤ 1 → uu = 0) ∧ ∀ q, g + 1 = q + 2 → uu = yen (t * 7 + q) := by
    by_cases e : g + 1 ≤ 1
    · exact ⟨0, fun _ => rfl, fun q e' => absurd e (by omega)⟩
    · exact ⟨yen (t * 7 + (g + 1 - 2)), fun e' => absurd e' e, fun q e' => by rw [show g + 1 - 2 = q by omega]⟩
  refine y_front (c := 15) (o := o) (vv := (yen (t * 7 + g))) (uu := uu) ht hp (Or.inl ha) (by omega) (fun _ => ho) (fun q => absurd q (by decide)) hh h6 v0 v1 u0 u1 ?_
  refine br_f (by decide) (br_f (by decide) (br_f (by decide) (br_f (by decide) (br_f (by decide) (y_237 (c := 15) (by omega) (y_256 (c := 15) (h := g + 1) ht hp hn hF hf la bad hc (by omega) h6 (fun e => ?_) fun e => ?_))))))
  · exact absurd e (by decide)
  · rw [tk, show g + 1 - 1 = g by omega]
    refine br_t (by decide) ?_
    rw [show nI x * 4 + nI o = nI (x * 4 + o) by rw [show nI x * 4 = nI (x * 4) from pk_mul x 4, nI_add], nI_clamp (by omega)]
    exact ⟨vp_in_nI (by omega) (by omega), nm_e (br_f (by decide) (br_f (by decide) (y_gives (c := 15) (by omega) (br_t (by decide) k))))⟩
theorem y_op10 {post : Int32 → SY → Prop} {t a p g o x f : Nat} (ht : t < 6) (hp : p ≤ 3) (hx : x < 4) (ha : a + 1 < 120) (hn : n ≤ 120) (hF : pl_Fmt (re_b M p) n) (hf : f < pl_nf (re_b M p)) (la : a < pl_e (re_b M p) f) (bad : ¬ pl_bad (re_b M p) f a) (hc : re_b M p a = 10) (ho : re_b M p (a + 1) = o) (hh : yhi t = nI (g)) (h6 : g ≤ 6) (hv : ∀ i, M i < 256) {j : Nat} (hj : pl_tg (re_b M p) a = (j : Int)) (hjl : j < 120)
    (k : post (-1) (yru, ypl, ynu, yps, yfi, nI (t + 1), yre, yme, yrp, yrq, yrl, fun i => nI (M i), yle, ypr, ywa, ybp, ybq, ybo, ysc, yfn, upd yat t (nI (p * 120 + j)), upd yhi t (nI g), ylo, yen)) : wY_step_79 post (nI p) (nI x) (nI t) (nI (p * 120 + a)) (nI 10) yru ypl ynu yps yfi (nI (t + 1)) yre yme yrp yrq yrl (fun i => nI (M i)) yle ypr ywa ybp ybq ybo ysc yfn yat yhi ylo yen := by
  have tk : pl_tk (re_b M p) a = 0 := by simp [pl_tk, hc]
  obtain ⟨vv, v0, v1⟩ : ∃ vv : Int32, (g = 0 → vv = 0) ∧ ∀ q, g = q + 1 → vv = yen (t * 7 + q) := by
    cases g with
    | zero => exact ⟨0, fun _ => rfl, fun q e => absurd e (by omega)⟩
    | succ g => exact ⟨yen (t * 7 + g), fun e => absurd e (by omega), fun q e => by rw [show g = q by omega]⟩
  obtain ⟨uu, u0, u1⟩ : ∃ uu : Int32, (g ≤ 1 → uu = 0) ∧ ∀ q, g = q + 2 → uu = yen (t * 7 + q) := by
    by_cases e : g ≤ 1
    · exact ⟨0, fun _ => rfl, fun q e' => absurd e (by omega)⟩
    · exact ⟨yen (t * 7 + (g - 2)), fun e' => absurd e' e, fun q e' => by rw [show g - 2 = q by omega]⟩
  refine y_front (c := 10) (o := o) (vv := vv) (uu := uu) ht hp (Or.inl ha) (by omega) (fun _ => ho) (fun q => absurd q (by decide)) hh h6 v0 v1 u0 u1 ?_
  refine br_f (by decide) (br_f (by decide) (br_f (by decide) (br_t (by decide) ?_)))
  · unfold wY_step_228
    refine y_target hp ha hv fun T hT => ?_
    have eT : T = nI (p * 120 + j) := tg_n (by rw [hT, hj]; omega) (by omega)
    subst eT
    refine y_256 (c := 10) (h := g) ht hp hn hF hf la bad hc (by omega) h6 (fun e => absurd e (by decide)) fun e => ?_
    rw [tk, show g - 0 = g by omega]
    exact br_f (by decide) (br_f (by decide) (br_f (by decide) (y_gives (c := 10) (by omega) (br_t (by decide) k))))
theorem y_op11 {post : Int32 → SY → Prop} {t a p g o x f : Nat} (ht : t < 6) (hp : p ≤ 3) (hx : x < 4) (ha : a + 1 < 120) (hn : n ≤ 120) (hF : pl_Fmt (re_b M p) n) (hf : f < pl_nf (re_b M p)) (la : a < pl_e (re_b M p) f) (bad : ¬ pl_bad (re_b M p) f a) (hc : re_b M p a = 11) (ho : re_b M p (a + 1) = o) (hh : yhi t = nI (g + 1)) (h6 : g + 1 ≤ 6) (hv : ∀ i, M i < 256) {j : Nat} (hj : pl_tg (re_b M p) a = (j : Int)) (hjl : j < 120)
    (k0 : yen (t * 7 + g) = 0 → post (-1) (yru, ypl, ynu, yps, yfi, nI (t + 1), yre, yme, yrp, yrq, yrl, fun i => nI (M i), yle, ypr, ywa, ybp, ybq, ybo, ysc, yfn, upd yat t (nI (p * 120 + j)), upd yhi t (nI g), ylo, yen)) (k1 : ¬ yen (t * 7 + g) = 0 → post (-1) (yru, ypl, ynu, yps, yfi, nI (t + 1), yre, yme, yrp, yrq, yrl, fun i => nI (M i), yle, ypr, ywa, ybp, ybq, ybo, ysc, yfn, upd yat t (nI (p * 120 + (a + 2))), upd yhi t (nI g), ylo, yen)) : wY_step_79 post (nI p) (nI x) (nI t) (nI (p * 120 + a)) (nI 11) yru ypl ynu yps yfi (nI (t + 1)) yre yme yrp yrq yrl (fun i => nI (M i)) yle ypr ywa ybp ybq ybo ysc yfn yat yhi ylo yen := by
  have tk : pl_tk (re_b M p) a = 1 := by simp [pl_tk, hc]
  have v0 : g + 1 = 0 → (yen (t * 7 + g)) = 0 := fun e => absurd e (by omega)
  have v1 : ∀ q, g + 1 = q + 1 → (yen (t * 7 + g)) = yen (t * 7 + q) := fun q e => by rw [show q = g by omega]
  obtain ⟨uu, u0, u1⟩ : ∃ uu : Int32, (g + 1 ≤ 1 → uu = 0) ∧ ∀ q, g + 1 = q + 2 → uu = yen (t * 7 + q) := by
    by_cases e : g + 1 ≤ 1
    · exact ⟨0, fun _ => rfl, fun q e' => absurd e (by omega)⟩
    · exact ⟨yen (t * 7 + (g + 1 - 2)), fun e' => absurd e' e, fun q e' => by rw [show g + 1 - 2 = q by omega]⟩
  refine y_front (c := 11) (o := o) (vv := (yen (t * 7 + g))) (uu := uu) ht hp (Or.inl ha) (by omega) (fun _ => ho) (fun q => absurd q (by decide)) hh h6 v0 v1 u0 u1 ?_
  refine br_f (by decide) (br_f (by decide) (br_f (by decide) (br_f (by decide) (br_t (by decide) (br_c (fun z => ?_) fun z => ?_)))))
  · unfold wY_step_228
    refine y_target hp ha hv fun T hT => ?_
    have eT : T = nI (p * 120 + j) := tg_n (by rw [hT, hj]; omega) (by omega)
    subst eT
    refine y_256 (c := 11) (h := g + 1) ht hp hn hF hf la bad hc (by omega) h6 (fun e => absurd e (by decide)) fun e => ?_
    rw [tk, show g + 1 - 1 = g by omega]
    exact br_f (by decide) (br_f (by decide) (br_f (by decide) (y_gives (c := 11) (by omega) (br_t (by decide) (k0 z)))))
  · refine y_237 (c := 11) (by omega) (y_256 (c := 11) (h := g + 1) ht hp hn hF hf la bad hc (by omega) h6 (fun e => absurd e (by decide)) fun e => ?_)
    rw [tk, show g + 1 - 1 = g by omega]
    exact br_f (by decide) (br_f (by decide) (br_f (by decide) (y_gives (c := 11) (by omega) (br_t (by decide) (k1 z)))))
theorem y_op16 {post : Int32 → SY → Prop} {t a p g o x f : Nat} (ht : t < 6) (hp : p ≤ 3) (hx : x < 4) (ha : a < 120) (hn : n ≤ 120) (hF : pl_Fmt (re_b M p) n) (hf : f < pl_nf (re_b M p)) (la : a < pl_e (re_b M p) f) (bad : ¬ pl_bad (re_b M p) f a) (hc : re_b M p a = 16) (hh : yhi t = nI (g + 1)) (h6 : g + 1 ≤ 6)
    (k0 : t = 0 → post 0 (yru, ypl, ynu, yps, yfi, 0, yen (t * 7 + g), yme, yrp, yrq, yrl, fun i => nI (M i), yle, ypr, ywa, ybp, ybq, ybo, ysc, yfn, yat, yhi, ylo, yen)) (k1 : ∀ s q, t = s + 1 → yhi s = nI q → q < 6 → post (-1) (yru, ypl, ynu, yps, yfi, nI (s + 1), yre, yme, yrp, yrq, yrl, fun i => nI (M i), yle, ypr, ywa, ybp, ybq, ybo, ysc, yfn, yat, upd yhi s (nI (q + 1)), ylo, upd yen (s * 7 + q) (yen (t * 7 + g)))) (hg : ∀ s, t = s + 1 → ∃ q, yhi s = nI q ∧ q < 6) : wY_step_79 post (nI p) (nI x) (nI t) (nI (p * 120 + a)) (nI 16) yru ypl ynu yps yfi (nI (t + 1)) yre yme yrp yrq yrl (fun i => nI (M i)) yle ypr ywa ybp ybq ybo ysc yfn yat yhi ylo yen := by
  have tk : pl_tk (re_b M p) a = 1 := by simp [pl_tk, hc]
  have v0 : g + 1 = 0 → (yen (t * 7 + g)) = 0 := fun e => absurd e (by omega)
  have v1 : ∀ q, g + 1 = q + 1 → (yen (t * 7 + g)) = yen (t * 7 + q) := fun q e => by rw [show q = g by omega]
  obtain ⟨uu, u0, u1⟩ : ∃ uu : Int32, (g + 1 ≤ 1 → uu = 0) ∧ ∀ q, g + 1 = q + 2 → uu = yen (t * 7 + q) := by
    by_cases e : g + 1 ≤ 1
    · exact ⟨0, fun _ => rfl, fun q e' => absurd e (by omega)⟩
    · exact ⟨yen (t * 7 + (g + 1 - 2)), fun e' => absurd e' e, fun q e' => by rw [show g + 1 - 2 = q by omega]⟩
  refine y_front (c := 16) (o := 0) (vv := (yen (t * 7 + g))) (uu := uu) ht hp (Or.inr (by decide)) (by omega) (fun q => absurd q (by decide)) (fun _ => rfl) hh h6 v0 v1 u0 u1 ?_
  refine br_f (by decide) (br_f (by decide) (br_t (by decide) ?_))
  unfold wpY_giveBack
  dsimp only
  refine nm_r (nI_pred t) ?_
  cases t with
  | zero => exact br_t nI_0 (k0 rfl)
  | succ s =>
    obtain ⟨q, g1, g2⟩ := hg s rfl
    exact br_f (nI_ne0 (by omega) (by omega)) (y_give (by omega) g1 (by omega) (k1 s q rfl g1 g2))
end D3
end
section
section D4
variable {r n : Nat} {pt M b : Nat → Nat} {xrc xbc xfc xrn xra xfi xfp xgn xac xlr : Int32} {xhm : Int64} {xrp xrA xrB xrC xby xhd xst xbg xco xen xre xld xim xic xih xif xop xbp xbq xsc xna xhe xlo xsk : Nat → Int32} {yru ypl ynu yps yfi yac yre : Int32} {yme : Int64} {yrp yrq yrl yby yle ypr ywa ybp ybq ybo ysc yfn yat yhi ylo yen : Nat → Int32}
theorem zz_out {g : Nat → Int32} {base j : Nat} : ∀ m, (j < base ∨ base + m ≤ j) → zz_f g base m j = g j := by
  intro m
  induction m with
  | zero => intro _; rfl
  | succ m ih =>
    intro h
    show upd (zz_f g base m) (base + m) 0 j = g j
    rw [pk_un (by omega), ih (by omega)]
theorem zz_in {g : Nat → Int32} {base k : Nat} : ∀ m, k < m → zz_f g base m (base + k) = 0 := by
  intro m
  induction m with
  | zero => intro h; omega
  | succ m ih =>
    intro h
    show upd (zz_f g base m) (base + m) 0 (base + k) = 0
    by_cases e : k = m
    · subst e; exact pk_us
    · rw [pk_un (by omega), ih (by omega)]
theorem x_clear {post : SX → Prop} {q : Nat} (hq : q < 6) (k : post (xrc, xbc, xfc, xrn, xra, xfi, xfp, xgn, nI q, xlr, xhm, xrp, xrA, xrB, xrC, xby, xhd, xst, xbg, xco, xen, xre, xld, xim, xic, xih, xif, xop, xbp, xbq, xsc, xna, xhe, zz_f xlo (q * 5) 5, xsk)) : wpX_clearLocals post (xrc, xbc, xfc, xrn, xra, xfi, xfp, xgn, nI q, xlr, xhm, xrp, xrA, xrB, xrC, xby, xhd, xst, xbg, xco, xen, xre, xld, xim, xic, xih, xif, xop, xbp, xbq, xsc, xna, xhe, xlo, xsk) := by
  have L : ∀ d i, i + d = 5 → wX_clearLocals_2 post xrc xbc xfc xrn xra xfi xfp xgn (nI q) xlr xhm (d + 1) (nI i) xrp xrA xrB xrC xby xhd xst xbg xco xen xre xld xim xic xih xif xop xbp xbq xsc xna xhe (zz_f xlo (q * 5) i) xsk := by
    intro d
    induction d with
    | zero =>
      intro i hi
      have : i = 5 := by omega
      subst this
      exact br_t (nI_le (a := 5) (b := 5) (by omega) (by omega)) k
    | succ d ih =>
      intro i hi
      have e : nI q * 5 + nI i = nI (q * 5 + i) := by rw [show nI q * 5 = nI (q * 5) from pk_mul q 5, nI_add]
      refine br_f (nI_ge (b := 5) (by omega) (by decide)) ⟨by rw [e]; exact vp_in_nI (by omega) (by omega), nm_r ?_ (nm_r (nI_1 i) (ih (i + 1) (by omega)))⟩
      rw [e, nI_clamp (by omega)]
      rfl
  exact ⟨6, L 5 0 rfl⟩
theorem x_act {post : SX → Prop} {q d : Nat} (hq : q < 6) (k : post (xrc, xbc, xfc, xrn, xra, xfi, xfp, xgn, nI (q + 1), xlr, xhm, xrp, xrA, xrB, xrC, xby, xhd, xst, xbg, xco, xen, xre, xld, xim, xic, xih, xif, xop, xbp, xbq, xsc, upd xna q (nI (d + 3)), upd xhe q 0, xlo, xsk)) : wpX_activate post (xrc, xbc, xfc, xrn, xra, xfi, xfp, xgn, nI q, xlr, xhm, xrp, xrA, xrB, xrC, xby, xhd, xst, xbg, xco, xen, xre, xld, xim, xic, xih, xif, xop, xbp, xbq, xsc, xna, xhe, xlo, xsk) (nI d) := by
  unfold wpX_activate
  dsimp only
  rw [nI_clamp (by omega), show nI d + 3 = nI (d + 3) from nI_add _ 3]
  exact ⟨vp_in_nI hq (by omega), nm_e ⟨vp_in_nI hq (by omega), nm_e (nm_r (nI_1 q) k)⟩⟩
theorem y_enter {post : SY → Prop} {q p f : Nat} (hq : q < 6) (hp : p ≤ 3) (hn : n ≤ 120) (hF : pl_Fmt (re_b M p) n) (hf : f < pl_nf (re_b M p))
    (k : post (yru, ypl, ynu, yps, yfi, nI (q + 1), yre, yme, yrp, yrq, yrl, fun i => nI (M i), yle, ypr, ywa, ybp, ybq, ybo, ysc, upd yfn q (nI f), upd yat q (nI (p * 120 + pl_s (re_b M p) f)), upd yhi q 0, zz_f ylo (q * 5) 5, yen)) : wpY_enter post (yru, ypl, ynu, yps, yfi, nI q, yre, yme, yrp, yrq, yrl, fun i => nI (M i), yle, ypr, ywa, ybp, ybq, ybo, ysc, yfn, yat, yhi, ylo, yen) (nI p) (nI f) := by
  have he := pl_ef hF hf
  have hh := pl_hf hF hf
  have h4 := hF.2.2.2.1
  have hi : ∀ i, i < f → pl_hd (re_b M p) i + 2 < 120 := by
    intro i h
    have := pl_hd_le (re_b M p) i f (by omega)
    omega
  have V : vp_in (nI q) 6 := vp_in_nI hq (by omega)
  unfold wpY_enter
  dsimp only
  rw [nI_clamp (by omega)]
  refine ⟨V, nm_e ?_⟩
  refine y_codeStart hp (by omega) hF.1 hi ⟨V, nm_e ⟨V, nm_e ⟨6, ?_⟩⟩⟩
  have L : ∀ d i, i + d = 5 → wY_enter_37 post yru ypl ynu yps yfi (nI q) yre yme (d + 1) (nI i) yrp yrq yrl (fun i => nI (M i)) yle ypr ywa ybp ybq ybo ysc (upd yfn q (nI f)) (upd yat q (nI (p * 120 + pl_s (re_b M p) f))) (upd yhi q 0) (zz_f ylo (q * 5) i) yen := by
    intro d
    induction d with
    | zero =>
      intro i hi
      have : i = 5 := by omega
      subst this
      exact br_t (nI_le (a := 5) (b := 5) (by omega) (by omega)) (nm_r (nI_1 q) k)
    | succ d ih =>
      intro i hi
      have e : nI q * 5 + nI i = nI (q * 5 + i) := by rw [show nI q * 5 = nI (q * 5) from pk_mul q 5, nI_add]
      refine br_f (nI_ge (b := 5) (by omega) (by decide)) ⟨by rw [e]; exact vp_in_nI (by omega) (by omega), nm_r ?_ (nm_r (nI_1 i) (ih (i + 1) (by omega)))⟩
      rw [e, nI_clamp (by omega)]
      rfl
  exact L 5 0 rfl
/-- the new activation's locals -/
def ca_L (t np : Nat) (v : Nat → Int32) (lo lo' : Nat → Int32) : Prop :=
  (∀ l, l ≤ t → ∀ i, i < 5 → lo' (l * 5 + i) = lo (l * 5 + i)) ∧ (∀ i, i < np → lo' ((t + 1) * 5 + i) = v i) ∧ ∀ i, np ≤ i → i < 5 → lo' ((t + 1) * 5 + i) = 0
theorem ca_L0 {t : Nat} {v lo : Nat → Int32} : ca_L t 0 v lo (zz_f lo ((t + 1) * 5) 5) :=
  ⟨fun l hl i hi => zz_out 5 (by omega), fun i hi => absurd hi (by omega), fun i _ hi => zz_in 5 hi⟩
theorem ca_L1 {t : Nat} {v lo : Nat → Int32} : ca_L t 1 v lo (upd (zz_f lo ((t + 1) * 5) 5) ((t + 1) * 5 + 0) (v 0)) := by
  refine ⟨fun l hl i hi => ?_, fun i hi => ?_, fun i h1 hi => ?_⟩
  · rw [pk_un (by omega)]; exact zz_out 5 (by omega)
  · have : i = 0 := by omega
    subst this
    exact pk_us
  · rw [pk_un (by omega)]; exact zz_in 5 hi
theorem ca_L2 {t : Nat} {v lo : Nat → Int32} : ca_L t 2 v lo (upd (upd (zz_f lo ((t + 1) * 5) 5) ((t + 1) * 5 + 1) (v 1)) ((t + 1) * 5 + 0) (v 0)) := by
  refine ⟨fun l hl i hi => ?_, fun i hi => ?_, fun i h1 hi => ?_⟩
  · rw [pk_un (by omega), pk_un (by omega)]; exact zz_out 5 (by omega)
  · rcases (show i = 0 ∨ i = 1 by omega) with rfl | rfl
    · exact pk_us
    · rw [pk_un (by omega)]; exact pk_us
  · rw [pk_un (by omega), pk_un (by omega)]; exact zz_in 5 hi
theorem x_12pre {post : Int32 → SX → Prop} {t a p o x np d : Nat} (ht : t < 6) (hp : p < 3) (hx : x < 4) (ha : a + 1 < 120) (hc : xim (p * 120 + a) = nI 12) (ho : xim (p * 120 + (a + 1)) = nI o) (ho4 : o < 4) (hbp : xbp x = nI p)
    (hd : xih (p * 4 + o) = nI (p * 120 + d)) (hdl : d < 120) (hnp : xim (p * 120 + d) = nI np)
    (kd : t = 5 → post 3 (xrc, xbc, xfc, xrn, xra, xfi, xfp, xgn, nI (t + 1), xlr, xhm, xrp, xrA, xrB, xrC, xby, xhd, xst, xbg, xco, xen, xre, xld, xim, xic, xih, xif, xop, xbp, xbq, xsc, upd xna t (nI (p * 120 + (a + 2))), xhe, xlo, xsk))
    (k : t < 5 → ∃ m, wX_callWithin_36 post (nI (p * 120 + d)) m (nI np - 1) xrc xbc xfc xrn xra xfi xfp xgn (nI (t + 1)) xlr xhm xrp xrA xrB xrC xby xhd xst xbg xco xen xre xld xim xic xih xif xop xbp xbq xsc (upd xna t (nI (p * 120 + (a + 2)))) xhe (zz_f xlo ((t + 1) * 5) 5) xsk) : wpX_perform post (xrc, xbc, xfc, xrn, xra, xfi, xfp, xgn, nI (t + 1), xlr, xhm, xrp, xrA, xrB, xrC, xby, xhd, xst, xbg, xco, xen, xre, xld, xim, xic, xih, xif, xop, xbp, xbq, xsc, xna, xhe, xlo, xsk) (nI x) (nI (p * 120 + a)) := by
  unfold wpX_perform
  dsimp only
  rw [nI_clamp (by omega), hc]
  refine ⟨vp_in_nI (by omega) (by omega), nm_e ?_⟩
  refine x_hasOp (c := 12) (by omega) (fun _ => br_f ba_10 ?_) fun q => absurd q (by decide)
  rw [show nI (p * 120 + a) + 1 = nI (p * 120 + (a + 1)) from nI_1 _, nI_clamp (by omega), ho]
  refine ⟨vp_in_nI (by omega) (by omega), ?_⟩
  refine nm_r (nI_pred t) (x_sizeOf (c := 12) (by omega) ⟨vp_in_nI ht (by omega), nm_r (e' := upd xna t (nI (p * 120 + (a + 2)))) ?_ ?_⟩)
  · rw [nI_clamp (by omega)]
    exact congrArg (upd xna t) (nI_add _ _)
  refine br_f (by decide) (br_f (by decide) (br_f (by decide) (br_f (by decide) (br_f (by decide) (br_f (by decide) (br_f (by decide) (br_f (by decide) (br_f (by decide) (br_f (by decide) (br_f (by decide) (br_f (by decide) (br_f (by decide) (br_f (by decide) (br_t (by decide) ?_))))))))))))))
  rw [nI_clamp (by omega), hbp]
  refine ⟨vp_in_nI hx (by omega), ?_⟩
  unfold wpX_callWithin
  dsimp only
  by_cases t5 : t = 5
  · exact br_f (by rw [t5]; decide) (kd t5)
  refine br_t (nI_lt (b := 6) (by omega) (by decide)) ?_
  rw [show nI p * 4 + nI o = nI (p * 4 + o) by rw [show nI p * 4 = nI (p * 4) from pk_mul p 4, nI_add], nI_clamp (by omega), hd]
  refine ⟨vp_in_nI (by omega) (by omega), nm_e ?_⟩
  refine x_clear (q := t + 1) (by omega) ?_
  dsimp only
  rw [nI_clamp (by omega), hnp]
  exact ⟨vp_in_nI (by omega) (by omega), nm_e (k (by omega))⟩
theorem x_op12 {t a p g o x np d : Nat} (ht : t < 5) (hp : p < 3) (hx : x < 4) (ha : a + 1 < 120) (hc : xim (p * 120 + a) = nI 12) (ho : xim (p * 120 + (a + 1)) = nI o) (ho4 : o < 4) (hbp : xbp x = nI p)
    (hd : xih (p * 4 + o) = nI (p * 120 + d)) (hdl : d < 120) (hnp : xim (p * 120 + d) = nI np) (hn2 : np ≤ 2) (hh : xhe t = nI (g + np)) (h6 : g + np ≤ 6) :
    ∃ he lo : Nat → Int32, he t = nI g ∧ (∀ l, l < t → he l = xhe l) ∧ ca_L t np (fun i => xsk (t * 6 + (g + i))) xlo lo ∧
      ∀ P : Int32 → SX → Prop, P (-1) (xrc, xbc, xfc, xrn, xra, xfi, xfp, xgn, nI (t + 1 + 1), xlr, xhm, xrp, xrA, xrB, xrC, xby, xhd, xst, xbg, xco, xen, xre, xld, xim, xic, xih, xif, xop, xbp, xbq, xsc, upd (upd xna t (nI (p * 120 + (a + 2)))) (t + 1) (nI (p * 120 + d + 3)), upd he (t + 1) 0, lo, xsk) → wpX_perform P (xrc, xbc, xfc, xrn, xra, xfi, xfp, xgn, nI (t + 1), xlr, xhm, xrp, xrA, xrB, xrC, xby, xhd, xst, xbg, xco, xen, xre, xld, xim, xic, xih, xif, xop, xbp, xbq, xsc, xna, xhe, xlo, xsk) (nI x) (nI (p * 120 + a)) := by
  have ix : ∀ i : Nat, nI (t + 1) * 5 + nI i = nI ((t + 1) * 5 + i) := fun i => by rw [show nI (t + 1) * 5 = nI ((t + 1) * 5) from pk_mul (t + 1) 5, nI_add]
  rcases (show np = 0 ∨ np = 1 ∨ np = 2 by omega) with rfl | rfl | rfl
  · refine ⟨xhe, _, hh, fun l _ => rfl, ca_L0, fun P K => x_12pre (by omega) hp hx ha hc ho ho4 hbp hd hdl hnp (fun z => absurd z (by omega)) fun _ => ⟨1, ?_⟩⟩
    rw [show nI 0 - 1 = -1 from by decide]
    exact br_t ba_m1lt (x_act (q := t + 1) (by omega) K)
  · refine ⟨_, _, pk_us (f := xhe), fun l hl => pk_un (by omega), ca_L1, fun P K => x_12pre (by omega) hp hx ha hc ho ho4 hbp hd hdl hnp (fun z => absurd z (by omega)) fun _ => ⟨2, ?_⟩⟩
    rw [show nI 1 - 1 = nI 0 from by decide]
    refine br_f (by decide) ?_
    refine x_pop (t := t) (by omega) (h := g) hh (by omega) ?_
    dsimp only
    rw [ix 0, nI_clamp (by omega)]
    exact ⟨vp_in_nI (by omega) (by omega), nm_e (nm_r (e' := -1) (by decide) (br_t ba_m1lt (x_act (q := t + 1) (by omega) K)))⟩
  · have hl2 : ∀ l, l < t → upd (upd xhe t (nI (g + 1))) t (nI g) l = xhe l := fun l hl => by rw [pk_un (by omega), pk_un (by omega)]
    refine ⟨_, _, pk_us, hl2, ca_L2, fun P K => x_12pre (by omega) hp hx ha hc ho ho4 hbp hd hdl hnp (fun z => absurd z (by omega)) fun _ => ⟨3, ?_⟩⟩
    rw [show nI 2 - 1 = nI 1 from by decide]
    refine br_f (by decide) ?_
    refine x_pop (t := t) (by omega) (h := g + 1) hh (by omega) ?_
    dsimp only
    rw [ix 1, nI_clamp (by omega)]
    refine ⟨vp_in_nI (by omega) (by omega), nm_e (nm_r (e' := nI 0) (by decide) (br_f (by decide) ?_))⟩
    refine x_pop (t := t) (by omega) (h := g) pk_us (by omega) ?_
    dsimp only
    rw [ix 0, nI_clamp (by omega)]
    exact ⟨vp_in_nI (by omega) (by omega), nm_e (nm_r (e' := -1) (by decide) (br_t ba_m1lt (x_act (q := t + 1) (by omega) K)))⟩
theorem ca_cp {t np : Nat} {v lo : Nat → Int32} (hn : np ≤ 5) : ca_L t np v lo (cp_f (zz_f lo ((t + 1) * 5) 5) ((t + 1) * 5) v np) := by
  refine ⟨fun l hl i hi => ?_, fun i hi => cp_in np hi, fun i h1 hi => ?_⟩
  · rw [cp_out np (by omega)]; exact zz_out 5 (by omega)
  · rw [cp_out np (by omega)]; exact zz_in 5 hi
theorem y_op12 {post : Int32 → SY → Prop} {t a p g o x f np : Nat} (ht : t < 6) (hp : p ≤ 3) (ha : a + 1 < 120) (hn : n ≤ 120) (hF : pl_Fmt (re_b M p) n) (ho : re_b M p (a + 1) = o) (hof : o < pl_nf (re_b M p)) (hnp : re_b M p (pl_hd (re_b M p) o) = np) (hn2 : np ≤ 2) (hat : yat t = nI (p * 120 + a)) (hh : yhi t = nI (g + np)) (h6 : g + np ≤ 6)
    (kd : t = 5 → post 3 (yru, ypl, ynu, yps, yfi, nI (t + 1), yre, yme, yrp, yrq, yrl, fun i => nI (M i), yle, ypr, ywa, ybp, ybq, ybo, ysc, yfn, yat, yhi, ylo, yen))
    (k : t < 5 →
      post (-1) (yru, ypl, ynu, yps, yfi, nI (t + 1 + 1), yre, yme, yrp, yrq, yrl, fun i => nI (M i), yle, ypr, ywa, ybp, ybq, ybo, ysc, upd yfn (t + 1) (nI o), upd (upd yat t (nI (p * 120 + (a + 2)))) (t + 1) (nI (p * 120 + pl_s (re_b M p) o)), upd (upd yhi t (nI g)) (t + 1) 0, cp_f (zz_f ylo ((t + 1) * 5) 5) ((t + 1) * 5) (fun i => yen (t * 7 + (g + i))) np, yen)) :
    wY_step_79 post (nI p) (nI x) (nI t) (nI (p * 120 + a)) (nI 12) yru ypl ynu yps yfi (nI (t + 1)) yre yme yrp yrq yrl (fun i => nI (M i)) yle ypr ywa ybp ybq ybo ysc yfn yat yhi ylo yen := by
  have he := pl_ef hF hof
  have hh' := pl_hf hF hof
  have h4 := hF.2.2.2.1
  have hi : ∀ i, i < o → pl_hd (re_b M p) i + 2 < 120 := by
    intro i h
    have := pl_hd_le (re_b M p) i o (by omega)
    omega
  obtain ⟨vv, v0, v1⟩ : ∃ vv : Int32, (g + np = 0 → vv = 0) ∧ ∀ q, g + np = q + 1 → vv = yen (t * 7 + q) := by
    by_cases e : g + np = 0
    · exact ⟨0, fun _ => rfl, fun q e' => absurd e (by omega)⟩
    · exact ⟨yen (t * 7 + (g + np - 1)), fun e' => absurd e' e, fun q e' => by rw [show g + np - 1 = q by omega]⟩
  obtain ⟨uu, u0, u1⟩ : ∃ uu : Int32, (g + np ≤ 1 → uu = 0) ∧ ∀ q, g + np = q + 2 → uu = yen (t * 7 + q) := by
    by_cases e : g + np ≤ 1
    · exact ⟨0, fun _ => rfl, fun q e' => absurd e (by omega)⟩
    · exact ⟨yen (t * 7 + (g + np - 2)), fun e' => absurd e' e, fun q e' => by rw [show g + np - 2 = q by omega]⟩
  refine y_front (c := 12) (o := o) (vv := vv) (uu := uu) ht hp (Or.inl ha) (by omega) (fun _ => ho) (fun q => absurd q (by decide)) hh h6 v0 v1 u0 u1 ?_
  refine br_f (by decide) (br_t (by decide) ?_)
  unfold wpY_invoke
  dsimp only
  by_cases t5 : t = 5
  · exact br_t (by rw [t5]; rfl) (kd t5)
  refine br_f (ba_ne (b := 6) (by omega) (by omega) (by omega)) ?_
  refine y_head hp (by omega) hF.1 hi ⟨vp_in_nI (by omega) (by omega), nm_r (e' := nI np) (by rw [y_rd hp (by omega), hnp]) (nm_r (nI_pred t) ?_)⟩
  have V : vp_in (nI t) 6 := vp_in_nI ht (by omega)
  rw [nI_clamp (by omega), hat, hh, show nI (p * 120 + a) + 2 = nI (p * 120 + (a + 2)) from nI_add _ 2, show nI (g + np) - nI np = nI g by rw [pk_sub (by omega)]; exact congrArg nI (by omega)]
  refine ⟨V, V, nm_e ⟨V, V, nm_e ?_⟩⟩
  refine y_enter (q := t + 1) (by omega) hp hn hF hof ⟨np + 1, ?_⟩
  have K := k (by omega)
  have yh : upd (upd yhi t (nI g)) (t + 1) 0 t = nI g := by rw [pk_un (by omega), pk_us]
  have L : ∀ d i, i + d = np →
      wY_invoke_66 post (nI np) (nI t) yru ypl ynu yps yfi (nI (t + 1 + 1)) yre yme (d + 1) (nI i) yrp yrq yrl (fun i => nI (M i)) yle ypr ywa ybp ybq ybo ysc (upd yfn (t + 1) (nI o)) (upd (upd yat t (nI (p * 120 + (a + 2)))) (t + 1) (nI (p * 120 + pl_s (re_b M p) o))) (upd (upd yhi t (nI g)) (t + 1) 0) (cp_f (zz_f ylo ((t + 1) * 5) 5) ((t + 1) * 5) (fun i => yen (t * 7 + (g + i))) i) yen := by
    intro d
    induction d with
    | zero =>
      intro i hi
      have : i = np := by omega
      subst this
      exact br_t (nI_le (Nat.le_refl _) (by omega)) K
    | succ d ih =>
      intro i hi
      have e1 : nI t * 7 + nI g + nI i = nI (t * 7 + (g + i)) := by
        rw [show nI t * 7 = nI (t * 7) from pk_mul t 7, nI_add, nI_add]
        exact congrArg nI (by omega)
      have e2 : nI (t + 1 + 1) * 5 - 5 + nI i = nI ((t + 1) * 5 + i) := by
        rw [show nI (t + 1 + 1) * 5 = nI ((t + 1 + 1) * 5) from pk_mul _ 5, show nI ((t + 1 + 1) * 5) - 5 = nI ((t + 1 + 1) * 5 - 5) from pk_sub (b := 5) (by omega), nI_add]
        exact congrArg nI (by omega)
      unfold wY_invoke_66
      rw [nI_clamp (show t < 2 ^ 31 by omega), yh, e1, e2, nI_clamp (by omega), nI_clamp (by omega)]
      exact br_f (nI_ge (by omega) (by omega)) ⟨V, vp_in_nI (by omega) (by omega), vp_in_nI (by omega) (by omega), nm_e (nm_r (nI_1 i) (ih (i + 1) (by omega)))⟩
  exact L np 0 (by omega)
end D4
end
section
section D5
variable {r n : Nat} {pt M b : Nat → Nat} {xrc xbc xfc xrn xra xfi xfp xgn xac xlr : Int32} {xhm : Int64} {xrp xrA xrB xrC xby xhd xst xbg xco xen xre xld xim xic xih xif xop xbp xbq xsc xna xhe xlo xsk : Nat → Int32} {yru ypl ynu yps yfi yac yre : Int32} {yme : Int64} {yrp yrq yrl yby yle ypr ywa ybp ybq ybo ysc yfn yat yhi ylo yen : Nat → Int32}
/-! reached by every good set of ways -/
def rr_R (b : Nat → Nat) (f i h : Nat) : Prop := pl_IS b f i ∧ ∀ R, pl_Good b f R → R i h
theorem rr_0 {b : Nat → Nat} {n f : Nat} (hF : pl_Fmt b n) (hf : f < pl_nf b) : rr_R b f (pl_s b f) 0 := ⟨pl_IS0 (hF.2.2.2.2.1 f hf).2.2.1, fun R hG => hG.1⟩
theorem rr_s {b : Nat → Nat} {f i h : Nat} (hW : pl_Flow b f) (hJ : ∀ i, pl_IS b f i → pl_jok b f i) (hR : rr_R b f i h) :
    pl_tk b i ≤ h ∧ h - pl_tk b i + pl_gv (b i) ≤ 6 ∧ ((b i = 10 ∨ b i = 11) → ∃ j : Nat, pl_tg b i = (j : Int) ∧ j < pl_e b f ∧ rr_R b f j (h - pl_tk b i + pl_gv (b i))) ∧
      (b i ≠ 10 → b i ≠ 16 → i + pl_sz (b i) < pl_e b f ∧ rr_R b f (i + pl_sz (b i)) (h - pl_tk b i + pl_gv (b i))) := by
  obtain ⟨R0, hG0⟩ := hW
  have g0 := hG0.2.2 i h (hR.2 R0 hG0)
  refine ⟨g0.1, g0.2.1, fun c => ?_, fun c1 c2 => ⟨(g0.2.2.2 c1 c2).1, pl_ISn hR.1 (g0.2.2.2 c1 c2).1, fun R hG => ((hG.2.2 i h (hR.2 R hG)).2.2.2 c1 c2).2⟩⟩
  obtain ⟨j, e, s, ij⟩ := hJ i hR.1 c
  refine ⟨j, e, ij.1, ij, fun R hG => ?_⟩
  obtain ⟨j', e', _, _, q⟩ := (hG.2.2 i h (hR.2 R hG)).2.2.1 c
  have : j = j' := by omega
  subst this
  exact q
/-- one activation, on both sides -/
def lv_A (b : Nat → Nat) (p l f a hh : Nat) (xna xhe xlo xsk yfn yat yhi ylo yen : Nat → Int32) : Prop :=
  f < pl_nf b ∧ yfn l = nI f ∧ xna l = nI (p * 120 + a) ∧ yat l = nI (p * 120 + a) ∧ xhe l = nI hh ∧ yhi l = nI hh ∧ hh ≤ 6 ∧ (∀ j, j < hh → xsk (l * 6 + j) = yen (l * 7 + j)) ∧ ∀ i, i < 5 → xlo (l * 5 + i) = ylo (l * 5 + i)
def lv_W (b : Nat → Nat) (p t : Nat) (xna xhe xlo xsk yfn yat yhi ylo yen : Nat → Int32) : Prop :=
  ∀ l, l < t → ∃ f a hh, lv_A b p l f a hh xna xhe xlo xsk yfn yat yhi ylo yen ∧ hh < 6 ∧ rr_R b f a (hh + 1) ∧ pl_L b f a
/-- alike below t -/
def lv_S (t : Nat) (xna xhe xlo xsk yfn yat yhi ylo yen xna' xhe' xlo' xsk' yfn' yat' yhi' ylo' yen' : Nat → Int32) : Prop :=
  ∀ l, l < t → xna' l = xna l ∧ xhe' l = xhe l ∧ yfn' l = yfn l ∧ yat' l = yat l ∧ yhi' l = yhi l ∧ (∀ j, j < 6 → xsk' (l * 6 + j) = xsk (l * 6 + j)) ∧ (∀ j, j < 6 → yen' (l * 7 + j) = yen (l * 7 + j)) ∧ (∀ i, i < 5 → xlo' (l * 5 + i) = xlo (l * 5 + i)) ∧ ∀ i, i < 5 → ylo' (l * 5 + i) = ylo (l * 5 + i)
theorem lv_c {b : Nat → Nat} {p t : Nat} {xna xhe xlo xsk yfn yat yhi ylo yen xna' xhe' xlo' xsk' yfn' yat' yhi' ylo' yen' : Nat → Int32} (h : lv_W b p t xna xhe xlo xsk yfn yat yhi ylo yen)
    (hs : lv_S t xna xhe xlo xsk yfn yat yhi ylo yen xna' xhe' xlo' xsk' yfn' yat' yhi' ylo' yen') : lv_W b p t xna' xhe' xlo' xsk' yfn' yat' yhi' ylo' yen' := by
  intro l hl
  obtain ⟨f, a, hh, ⟨a1, a2, a3, a4, a5, a6, a7, a8, a9⟩, r1, r2, r3⟩ := h l hl
  obtain ⟨e1, e2, e3, e4, e5, e6, e7, e8, e9⟩ := hs l hl
  refine ⟨f, a, hh, ⟨a1, by rw [e3]; exact a2, by rw [e1]; exact a3, by rw [e4]; exact a4, by rw [e2]; exact a5, by rw [e5]; exact a6, a7, fun j hj => ?_, fun i hi => ?_⟩, r1, r2, r3⟩
  · rw [e6 j (by omega), e7 j (by omega)]; exact a8 j hj
  · rw [e8 i hi, e9 i hi]; exact a9 i hi
def rn_V (M : Nat → Nat) (p x n : Nat) (xim xic xih xbp : Nat → Int32) : Prop :=
  p < 3 ∧ x < 4 ∧ (∀ i, M i < 256) ∧ pl_WF (re_b M p) n ∧ (∀ i, i < 120 → xim (p * 120 + i) = nI (re_b M p i)) ∧ xbp x = nI p ∧
    ∀ f, f < pl_nf (re_b M p) → xih (p * 4 + f) = nI (p * 120 + pl_hd (re_b M p) f) ∧ ∀ i, pl_IS (re_b M p) f i → xic (p * 120 + i) = nI (pl_C (re_b M p) f i)
theorem pl_C_le {b : Nat → Nat} {n f i : Nat} (hF : pl_Fmt b n) (hf : f < pl_nf b) (hI : pl_IS b f i) : pl_C b f i ≤ 205 := by
  by_cases h : pl_L b f i
  · rw [pl_C_L h]
    have := pl_T_le (b := b) (f := f) (i := i + pl_sz (b i)) (by have := pl_ISge hI; omega) (hF.2.2.2.2.1 f hf).2.2.2
    have := pl_wt_pos (b i)
    omega
  · rw [pl_C_n h]; omega
theorem up_same {g : Nat → Int32} {k : Nat} {v : Int32} (h : g k = v) : upd g k v = g := by
  funext j
  by_cases e : j = k
  · subst e; rw [pk_us, h]
  · rw [pk_un e]
theorem y_stp {post : Int32 → SY → Prop} {t f a p x q : Nat} (hV : rn_V M p x n xim xic xih xbp) (ht : t < 6) (hf : f < pl_nf (re_b M p)) (hfn : yfn t = nI f) (hat : yat t = nI (p * 120 + a)) (hI : pl_IS (re_b M p) f a) (hq : ybq x = nI q) (hq2 : q ≤ 2000)
    (kq : q < pl_C (re_b M p) f a → post 1 (yru, ypl, ynu, yps, yfi, nI (t + 1), yre, yme, yrp, yrq, yrl, fun i => nI (M i), yle, ypr, ywa, ybp, ybq, ybo, ysc, yfn, yat, yhi, ylo, yen))
    (k : pl_C (re_b M p) f a ≤ q → wY_step_79 post (nI p) (nI x) (nI t) (nI (p * 120 + a)) (nI (re_b M p a)) yru ypl ynu yps yfi (nI (t + 1)) yre yme yrp yrq yrl (fun i => nI (M i)) yle ypr ywa ybp (upd ybq x (nI (q - pl_C (re_b M p) f a))) ybo ysc yfn yat yhi ylo yen) :
    wpY_step post (yru, ypl, ynu, yps, yfi, nI (t + 1), yre, yme, yrp, yrq, yrl, fun i => nI (M i), yle, ypr, ywa, ybp, ybq, ybo, ysc, yfn, yat, yhi, ylo, yen) (nI p) (nI x) := by
  obtain ⟨hp, hx, hv, ⟨hn, hF, hff⟩, _, _, _⟩ := hV
  have he := pl_ef hF hf
  have la := hI.1
  have cl := pl_C_le hF hf hI
  have V : vp_in (nI t) 6 := vp_in_nI ht (by omega)
  have Vx : vp_in (nI x) 4 := vp_in_nI hx (by omega)
  unfold wpY_step
  dsimp only
  refine nm_r (nI_pred t) ⟨V, ?_⟩
  rw [nI_clamp (show t < 2 ^ 31 by omega), hat, hfn]
  refine nm_e ⟨vp_in_nI (by omega) (by omega), nm_r (e' := nI (re_b M p a)) (y_rd (by omega) (by omega)) ⟨V, ?_⟩⟩
  refine y_leads (by omega) hn hF hf hv (hff f hf).1 (by omega) (fun hL => br_f ba_10 ⟨V, ?_⟩) fun hL => br_t rfl ?_
  · refine y_cost (by omega) hn hF hf hv (hff f hf).1 hI ⟨Vx, ?_⟩
    rw [← pl_C_L hL, nI_clamp (by omega), hq]
    exact pk_le (pl_C (re_b M p) f a) q (fun h => ⟨Vx, Vx, nm_r (by rw [pk_sub h]) (k h)⟩) fun h => kq h
  · have K := k (by rw [pl_C_n hL]; omega)
    rw [pl_C_n hL, up_same (by rw [hq]; rfl)] at K
    exact K
end D5
section D6
variable {r n : Nat} {pt M b : Nat → Nat} {xrc xbc xfc xrn xra xfi xfp xgn xac xlr : Int32} {xhm : Int64} {xrp xrA xrB xrC xby xhd xst xbg xco xen xre xld xim xic xih xif xop xbp xbq xsc xna xhe xlo xsk : Nat → Int32} {yru ypl ynu yps yfi yac yre : Int32} {yme : Int64} {yrp yrq yrl yby yle ypr ywa ybp ybq ybo ysc yfn yat yhi ylo yen : Nat → Int32}
variable {xac1 xlr1 : Int32} {hm1 : Int64} {bq1 sc1 na1 he1 lo1 sk1 : Nat → Int32} {yac1 : Int32} {fn1 at1 hi1 yl1 en1 : Nat → Int32}
theorem x_qu {post : Int32 → SX → Prop} {t a p x q c k st : Nat} (ht : t < 6) (hp : p < 3) (hx : x < 4) (ha : a < 120) (hst : st ≤ 2000) (hna : xna t = nI (p * 120 + a)) (hic : xic (p * 120 + a) = nI c) (hc : c ≤ 205) (hq : xbq x = nI q) (hq2 : q ≤ 2000) (h : q < c)
    (K : post 1 (xrc, xbc, xfc, xrn, xra, xfi, xfp, xgn, nI (t + 1), xlr, xhm, xrp, xrA, xrB, xrC, xby, xhd, xst, xbg, xco, xen, xre, xld, xim, xic, xih, xif, xop, xbp, xbq, xsc, xna, xhe, xlo, xsk)) : wX_run_2 post (nI x) (k + 1) (nI st) xrc xbc xfc xrn xra xfi xfp xgn (nI (t + 1)) xlr xhm xrp xrA xrB xrC xby xhd xst xbg xco xen xre xld xim xic xih xif xop xbp xbq xsc xna xhe xlo xsk := by
  have Vx : vp_in (nI x) 4 := vp_in_nI hx (by omega)
  unfold wX_run_2
  rw [nI_pred, nI_clamp (show t < 2 ^ 31 by omega), hna]
  refine br_f (nI_ge (b := 2001) (by omega) (by decide)) ⟨vp_in_nI ht (by omega), nm_e ⟨Vx, vp_in_nI (by omega) (by omega), ?_⟩⟩
  rw [nI_clamp (by omega), nI_clamp (by omega), hic, hq]
  exact br_f (nI_ge h (by omega)) K
theorem x_go {post : Int32 → SX → Prop} {t a p x q c k st : Nat} (ht : t < 6) (hp : p < 3) (hx : x < 4) (ha : a < 120) (hst : st ≤ 2000) (hna : xna t = nI (p * 120 + a)) (hic : xic (p * 120 + a) = nI c) (hc : c ≤ 205) (hq : xbq x = nI q) (hq2 : q ≤ 2000) (h : c ≤ q)
    (hX : ∀ P : Int32 → SX → Prop, P (-1) (xrc, xbc, xfc, xrn, xra, xfi, xfp, xgn, xac1, xlr, hm1, xrp, xrA, xrB, xrC, xby, xhd, xst, xbg, xco, xen, xre, xld, xim, xic, xih, xif, xop, xbp, bq1, sc1, na1, he1, lo1, sk1) → wpX_perform P (xrc, xbc, xfc, xrn, xra, xfi, xfp, xgn, nI (t + 1), xlr, xhm, xrp, xrA, xrB, xrC, xby, xhd, xst, xbg, xco, xen, xre, xld, xim, xic, xih, xif, xop, xbp, upd xbq x (nI (q - c)), xsc, xna, xhe, xlo, xsk) (nI x) (nI (p * 120 + a)))
    (K : wX_run_2 post (nI x) k (nI (st + 1)) xrc xbc xfc xrn xra xfi xfp xgn xac1 xlr hm1 xrp xrA xrB xrC xby xhd xst xbg xco xen xre xld xim xic xih xif xop xbp bq1 sc1 na1 he1 lo1 sk1) : wX_run_2 post (nI x) (k + 1) (nI st) xrc xbc xfc xrn xra xfi xfp xgn (nI (t + 1)) xlr xhm xrp xrA xrB xrC xby xhd xst xbg xco xen xre xld xim xic xih xif xop xbp xbq xsc xna xhe xlo xsk := by
  have Vx : vp_in (nI x) 4 := vp_in_nI hx (by omega)
  have Va : vp_in (nI (p * 120 + a)) 360 := vp_in_nI (by omega) (by omega)
  unfold wX_run_2
  rw [nI_pred, nI_clamp (show t < 2 ^ 31 by omega), hna]
  refine br_f (nI_ge (b := 2001) (by omega) (by decide)) ⟨vp_in_nI ht (by omega), nm_e ⟨Vx, Va, ?_⟩⟩
  rw [nI_clamp (by omega), nI_clamp (by omega), hic, hq]
  refine br_t (nI_le h (by omega)) ⟨Vx, Va, Vx, nm_r (by rw [pk_sub h]) (hX _ (br_t rfl (nm_r (nI_1 st) K)))⟩
theorem x_en {post : Int32 → SX → Prop} {t a p x q c k st : Nat} {w : Int32} (ht : t < 6) (hp : p < 3) (hx : x < 4) (ha : a < 120) (hst : st ≤ 2000) (hna : xna t = nI (p * 120 + a)) (hic : xic (p * 120 + a) = nI c) (hc : c ≤ 205) (hq : xbq x = nI q) (hq2 : q ≤ 2000) (h : c ≤ q) (hw : ¬ w = -1)
    (hX : ∀ P : Int32 → SX → Prop, P w (xrc, xbc, xfc, xrn, xra, xfi, xfp, xgn, xac1, xlr1, hm1, xrp, xrA, xrB, xrC, xby, xhd, xst, xbg, xco, xen, xre, xld, xim, xic, xih, xif, xop, xbp, bq1, sc1, na1, he1, lo1, sk1) → wpX_perform P (xrc, xbc, xfc, xrn, xra, xfi, xfp, xgn, nI (t + 1), xlr, xhm, xrp, xrA, xrB, xrC, xby, xhd, xst, xbg, xco, xen, xre, xld, xim, xic, xih, xif, xop, xbp, upd xbq x (nI (q - c)), xsc, xna, xhe, xlo, xsk) (nI x) (nI (p * 120 + a)))
    (K : post w (xrc, xbc, xfc, xrn, xra, xfi, xfp, xgn, xac1, xlr1, hm1, xrp, xrA, xrB, xrC, xby, xhd, xst, xbg, xco, xen, xre, xld, xim, xic, xih, xif, xop, xbp, bq1, sc1, na1, he1, lo1, sk1)) : wX_run_2 post (nI x) (k + 1) (nI st) xrc xbc xfc xrn xra xfi xfp xgn (nI (t + 1)) xlr xhm xrp xrA xrB xrC xby xhd xst xbg xco xen xre xld xim xic xih xif xop xbp xbq xsc xna xhe xlo xsk := by
  have Vx : vp_in (nI x) 4 := vp_in_nI hx (by omega)
  have Va : vp_in (nI (p * 120 + a)) 360 := vp_in_nI (by omega) (by omega)
  unfold wX_run_2
  rw [nI_pred, nI_clamp (show t < 2 ^ 31 by omega), hna]
  refine br_f (nI_ge (b := 2001) (by omega) (by decide)) ⟨vp_in_nI ht (by omega), nm_e ⟨Vx, Va, ?_⟩⟩
  rw [nI_clamp (by omega), nI_clamp (by omega), hic, hq]
  refine br_t (nI_le h (by omega)) ⟨Vx, Va, Vx, nm_r (by rw [pk_sub h]) (hX _ (br_f hw K))⟩
theorem y_go {post : Int32 → SY → Prop} {p x k st : Nat} (hst : st ≤ 2000)
    (hY : ∀ P : Int32 → SY → Prop, P (-1) (yru, ypl, ynu, yps, yfi, yac1, yre, hm1, yrp, yrq, yrl, yby, yle, ypr, ywa, ybp, bq1, ybo, sc1, fn1, at1, hi1, yl1, en1) → wpY_step P (yru, ypl, ynu, yps, yfi, yac, yre, yme, yrp, yrq, yrl, yby, yle, ypr, ywa, ybp, ybq, ybo, ysc, yfn, yat, yhi, ylo, yen) (nI p) (nI x))
    (K : wY_call_115 post (nI x) (nI p) k (-1) (nI (st + 1)) yru ypl ynu yps yfi yac1 yre hm1 yrp yrq yrl yby yle ypr ywa ybp bq1 ybo sc1 fn1 at1 hi1 yl1 en1) : wY_call_115 post (nI x) (nI p) (k + 1) (-1) (nI st) yru ypl ynu yps yfi yac yre yme yrp yrq yrl yby yle ypr ywa ybp ybq ybo ysc yfn yat yhi ylo yen :=
  br_f (nI_ge (b := 3000) (by omega) (by decide)) (br_f (by decide) (hY _ (nm_r (nI_1 st) K)))
theorem y_en {post : Int32 → SY → Prop} {p x k st : Nat} {w : Int32} (hst : st ≤ 2000) (hw : 0 ≤ w)
    (hY : ∀ P : Int32 → SY → Prop, P w (yru, ypl, ynu, yps, yfi, yac1, xlr1, hm1, yrp, yrq, yrl, yby, yle, ypr, ywa, ybp, bq1, ybo, sc1, fn1, at1, hi1, yl1, en1) → wpY_step P (yru, ypl, ynu, yps, yfi, yac, yre, yme, yrp, yrq, yrl, yby, yle, ypr, ywa, ybp, ybq, ybo, ysc, yfn, yat, yhi, ylo, yen) (nI p) (nI x))
    (K : post w (yru, ypl, ynu, yps, yfi, yac1, xlr1, hm1, yrp, yrq, yrl, yby, yle, ypr, ywa, ybp, bq1, ybo, sc1, fn1, at1, hi1, yl1, en1)) : wY_call_115 post (nI x) (nI p) (k + 2) (-1) (nI st) yru ypl ynu yps yfi yac yre yme yrp yrq yrl yby yle ypr ywa ybp ybq ybo ysc yfn yat yhi ylo yen :=
  br_f (nI_ge (b := 3000) (by omega) (by decide)) (br_f (by decide) (hY _ (nm_r (nI_1 st) (br_f (nI_ge (b := 3000) (by omega) (by decide)) (br_t hw K)))))
/-- both runs end alike: k the steps that are left, st the steps done -/
def rn_E (x p : Nat) (q0 : Nat → Int32) (k st : Nat) (xrc xbc xfc xrn xra xfi xfp xgn xac xlr : Int32) (xhm : Int64) (xrp xrA xrB xrC xby xhd xst xbg xco xen xre xld xim xic xih xif xop xbp xbq xsc xna xhe xlo xsk : Nat → Int32) (yru ypl ynu yps yfi yac yre : Int32) (yme : Int64) (yrp yrq yrl yby yle ypr ywa ybp ybq ybo ysc yfn yat yhi ylo yen : Nat → Int32) : Prop :=
  ∃ (w rs : Int32) (hm : Int64) (bq sc : Nat → Int32) (xac1 : Int32) (na1 he1 lo1 sk1 : Nat → Int32) (yac1 : Int32) (fn1 at1 hi1 yl1 en1 : Nat → Int32),
    (∀ y, y ≠ x → bq y = q0 y) ∧ (∃ q, q ≤ 2000 ∧ bq x = nI q) ∧
    (∀ post : Int32 → SX → Prop, post w (xrc, xbc, xfc, xrn, xra, xfi, xfp, xgn, xac1, rs, hm, xrp, xrA, xrB, xrC, xby, xhd, xst, xbg, xco, xen, xre, xld, xim, xic, xih, xif, xop, xbp, bq, sc, na1, he1, lo1, sk1) → wX_run_2 post (nI x) (k + 1) (nI st) xrc xbc xfc xrn xra xfi xfp xgn xac xlr xhm xrp xrA xrB xrC xby xhd xst xbg xco xen xre xld xim xic xih xif xop xbp xbq xsc xna xhe xlo xsk) ∧
    (∀ post : Int32 → SY → Prop, post w (yru, ypl, ynu, yps, yfi, yac1, rs, hm, yrp, yrq, yrl, yby, yle, ypr, ywa, ybp, bq, ybo, sc, fn1, at1, hi1, yl1, en1) → wY_call_115 post (nI x) (nI p) (k + 2) (-1) (nI st) yru ypl ynu yps yfi yac yre yme yrp yrq yrl yby yle ypr ywa ybp ybq ybo ysc yfn yat yhi ylo yen)
theorem rn_next {t f a p x q k st : Nat} {q0 : Nat → Int32} (hV : rn_V M p x n xim xic xih xbp) (ht : t < 6) (hA : lv_A (re_b M p) p t f a r xna xhe xlo xsk yfn yat yhi ylo yen) (hI : pl_IS (re_b M p) f a) (hq : xbq x = nI q) (hq2 : q ≤ 2000) (hst : st ≤ 2000) (h : pl_C (re_b M p) f a ≤ q)
    (hX : ∀ P : Int32 → SX → Prop, P (-1) (xrc, xbc, xfc, xrn, xra, xfi, xfp, xgn, xac1, 0, hm1, xrp, xrA, xrB, xrC, xby, xhd, xst, xbg, xco, xen, xre, xld, xim, xic, xih, xif, xop, xbp, bq1, sc1, na1, he1, lo1, sk1) → wpX_perform P (xrc, xbc, xfc, xrn, xra, xfi, xfp, xgn, nI (t + 1), 0, xhm, xrp, xrA, xrB, xrC, xby, xhd, xst, xbg, xco, xen, xre, xld, xim, xic, xih, xif, xop, xbp, upd xbq x (nI (q - pl_C (re_b M p) f a)), xsc, xna, xhe, xlo, xsk) (nI x) (nI (p * 120 + a)))
    (hY : ∀ P : Int32 → SY → Prop, P (-1) (yru, ypl, ynu, yps, yfi, yac1, 0, hm1, yrp, yrq, yrl, fun i => nI (M i), yle, ypr, ywa, ybp, bq1, ybo, sc1, fn1, at1, hi1, yl1, en1) → wY_step_79 P (nI p) (nI x) (nI t) (nI (p * 120 + a)) (nI (re_b M p a)) yru ypl ynu yps yfi (nI (t + 1)) 0 xhm yrp yrq yrl (fun i => nI (M i)) yle ypr ywa ybp (upd xbq x (nI (q - pl_C (re_b M p) f a))) ybo xsc yfn yat yhi ylo yen)
    (E : rn_E x p q0 k (st + 1) xrc xbc xfc xrn xra xfi xfp xgn xac1 0 hm1 xrp xrA xrB xrC xby xhd xst xbg xco xen xre xld xim xic xih xif xop xbp bq1 sc1 na1 he1 lo1 sk1 yru ypl ynu yps yfi yac1 0 hm1 yrp yrq yrl (fun i => nI (M i)) yle ypr ywa ybp bq1 ybo sc1 fn1 at1 hi1 yl1 en1) :
    rn_E x p q0 (k + 1) st xrc xbc xfc xrn xra xfi xfp xgn (nI (t + 1)) 0 xhm xrp xrA xrB xrC xby xhd xst xbg xco xen xre xld xim xic xih xif xop xbp xbq xsc xna xhe xlo xsk yru ypl ynu yps yfi (nI (t + 1)) 0 xhm yrp yrq yrl (fun i => nI (M i)) yle ypr ywa ybp xbq ybo xsc yfn yat yhi ylo yen := by
  obtain ⟨w, rs, hm, bq, sc, ac2, na2, he2, lo2, sk2, yc2, fn2, at2, hi2, yl2, en2, e1, e2, e3, e4⟩ := E
  obtain ⟨a1, a2, a3, a4, a5, a6, a7, a8, a9⟩ := hA
  have hF := hV.2.2.2.1.2.1
  have he := pl_ef hF a1
  have la := hI.1
  have hn := hV.2.2.2.1.1
  refine ⟨w, rs, hm, bq, sc, ac2, na2, he2, lo2, sk2, yc2, fn2, at2, hi2, yl2, en2, e1, e2, fun post K => ?_, fun post K => ?_⟩
  · exact x_go ht hV.1 hV.2.1 (by omega) hst a3 ((hV.2.2.2.2.2.2 f a1).2 a hI) (pl_C_le hF a1 hI) hq hq2 h hX (e3 post K)
  · refine y_go hst (fun P q' => ?_) (e4 post K)
    exact y_stp hV ht a1 a2 a4 hI hq hq2 (fun z => absurd z (by omega)) fun _ => hY P q'
theorem rn_fin {t f a p x q k st : Nat} {w : Int32} {q0 : Nat → Int32} (hV : rn_V M p x n xim xic xih xbp) (ht : t < 6) (hA : lv_A (re_b M p) p t f a r xna xhe xlo xsk yfn yat yhi ylo yen) (hI : pl_IS (re_b M p) f a) (hq : xbq x = nI q) (hq2 : q ≤ 2000) (hst : st ≤ 2000) (h : pl_C (re_b M p) f a ≤ q) (hw : ¬ w = -1) (hw0 : 0 ≤ w) (hqs : ∀ y, y ≠ x → xbq y = q0 y)
    (hX : ∀ P : Int32 → SX → Prop, P w (xrc, xbc, xfc, xrn, xra, xfi, xfp, xgn, xac1, xlr1, xhm, xrp, xrA, xrB, xrC, xby, xhd, xst, xbg, xco, xen, xre, xld, xim, xic, xih, xif, xop, xbp, upd xbq x (nI (q - pl_C (re_b M p) f a)), xsc, na1, he1, lo1, sk1) → wpX_perform P (xrc, xbc, xfc, xrn, xra, xfi, xfp, xgn, nI (t + 1), 0, xhm, xrp, xrA, xrB, xrC, xby, xhd, xst, xbg, xco, xen, xre, xld, xim, xic, xih, xif, xop, xbp, upd xbq x (nI (q - pl_C (re_b M p) f a)), xsc, xna, xhe, xlo, xsk) (nI x) (nI (p * 120 + a)))
    (hY : ∀ P : Int32 → SY → Prop, P w (yru, ypl, ynu, yps, yfi, yac1, xlr1, xhm, yrp, yrq, yrl, fun i => nI (M i), yle, ypr, ywa, ybp, upd xbq x (nI (q - pl_C (re_b M p) f a)), ybo, xsc, fn1, at1, hi1, yl1, en1) → wY_step_79 P (nI p) (nI x) (nI t) (nI (p * 120 + a)) (nI (re_b M p a)) yru ypl ynu yps yfi (nI (t + 1)) 0 xhm yrp yrq yrl (fun i => nI (M i)) yle ypr ywa ybp (upd xbq x (nI (q - pl_C (re_b M p) f a))) ybo xsc yfn yat yhi ylo yen) :
    rn_E x p q0 k st xrc xbc xfc xrn xra xfi xfp xgn (nI (t + 1)) 0 xhm xrp xrA xrB xrC xby xhd xst xbg xco xen xre xld xim xic xih xif xop xbp xbq xsc xna xhe xlo xsk yru ypl ynu yps yfi (nI (t + 1)) 0 xhm yrp yrq yrl (fun i => nI (M i)) yle ypr ywa ybp xbq ybo xsc yfn yat yhi ylo yen := by
  obtain ⟨a1, a2, a3, a4, a5, a6, a7, a8, a9⟩ := hA
  have hF := hV.2.2.2.1.2.1
  have he := pl_ef hF a1
  have la := hI.1
  have hn := hV.2.2.2.1.1
  refine ⟨w, xlr1, xhm, upd xbq x (nI (q - pl_C (re_b M p) f a)), xsc, xac1, na1, he1, lo1, sk1, yac1, fn1, at1, hi1, yl1, en1, fun y hy => ?_, ⟨q - pl_C (re_b M p) f a, by omega, pk_us⟩, fun post K => ?_, fun post K => ?_⟩
  · rw [pk_un hy]; exact hqs y hy
  · exact x_en ht hV.1 hV.2.1 (by omega) hst a3 ((hV.2.2.2.2.2.2 f a1).2 a hI) (pl_C_le hF a1 hI) hq hq2 h hw hX K
  · refine y_en hst hw0 (fun P q' => ?_) K
    exact y_stp hV ht a1 a2 a4 hI hq hq2 (fun z => absurd z (by omega)) fun _ => hY P q'
theorem rn_qu {t f a p x q k st : Nat} {q0 : Nat → Int32} (hV : rn_V M p x n xim xic xih xbp) (ht : t < 6) (hA : lv_A (re_b M p) p t f a r xna xhe xlo xsk yfn yat yhi ylo yen) (hI : pl_IS (re_b M p) f a) (hq : xbq x = nI q) (hq2 : q ≤ 2000) (hst : st ≤ 2000) (h : q < pl_C (re_b M p) f a) (hqs : ∀ y, y ≠ x → xbq y = q0 y) :
    rn_E x p q0 k st xrc xbc xfc xrn xra xfi xfp xgn (nI (t + 1)) 0 xhm xrp xrA xrB xrC xby xhd xst xbg xco xen xre xld xim xic xih xif xop xbp xbq xsc xna xhe xlo xsk yru ypl ynu yps yfi (nI (t + 1)) 0 xhm yrp yrq yrl (fun i => nI (M i)) yle ypr ywa ybp xbq ybo xsc yfn yat yhi ylo yen := by
  obtain ⟨a1, a2, a3, a4, a5, a6, a7, a8, a9⟩ := hA
  have hF := hV.2.2.2.1.2.1
  have he := pl_ef hF a1
  have la := hI.1
  have hn := hV.2.2.2.1.1
  refine ⟨1, 0, xhm, xbq, xsc, nI (t + 1), xna, xhe, xlo, xsk, nI (t + 1), yfn, yat, yhi, ylo, yen, hqs, ⟨q, hq2, hq⟩, fun post K => ?_, fun post K => ?_⟩
  · exact x_qu ht hV.1 hV.2.1 (by omega) hst a3 ((hV.2.2.2.2.2.2 f a1).2 a hI) (pl_C_le hF a1 hI) hq hq2 h K
  · refine y_en hst (by decide) (fun P q' => ?_) K
    exact y_stp hV ht a1 a2 a4 hI hq hq2 (fun _ => q') fun z => absurd z (by omega)
end D6
end
section
section D7
variable {r n : Nat} {pt M b : Nat → Nat} {xrc xbc xfc xrn xra xfi xfp xgn xac xlr : Int32} {xhm : Int64} {xrp xrA xrB xrC xby xhd xst xbg xco xen xre xld xim xic xih xif xop xbp xbq xsc xna xhe xlo xsk : Nat → Int32} {yru ypl ynu yps yfi yac yre : Int32} {yme : Int64} {yrp yrq yrl yby yle ypr ywa ybp ybq ybo ysc yfn yat yhi ylo yen : Nat → Int32}
/-- what the induction gives -/
def rn_H (x p : Nat) (q0 : Nat → Int32) (M : Nat → Nat) (m : Nat) (xrc xbc xfc xrn xra xfi xfp xgn xac xlr : Int32) (xhm : Int64) (xrp xrA xrB xrC xby xhd xst xbg xco xen xre xld xim xic xih xif xop xbp xbq xsc xna xhe xlo xsk : Nat → Int32) (yru ypl ynu yps yfi yac yre : Int32) (yme : Int64) (yrp yrq yrl yby yle ypr ywa ybp ybq ybo ysc yfn yat yhi ylo yen : Nat → Int32) : Prop :=
  ∀ (t f a hh q st : Nat) (xhm : Int64) (xbq xsc xna xhe xlo xsk yfn yat yhi ylo yen : Nat → Int32), t < 6 → st + m ≤ 2000 → lv_W (re_b M p) p t xna xhe xlo xsk yfn yat yhi ylo yen → lv_A (re_b M p) p t f a hh xna xhe xlo xsk yfn yat yhi ylo yen → rr_R (re_b M p) f a hh →
    (∀ y, y ≠ x → xbq y = q0 y) → xbq x = nI q → q ≤ 2000 → q + pl_T (re_b M p) f a ≤ m →
    rn_E x p q0 m st xrc xbc xfc xrn xra xfi xfp xgn (nI (t + 1)) 0 xhm xrp xrA xrB xrC xby xhd xst xbg xco xen xre xld xim xic xih xif xop xbp xbq xsc xna xhe xlo xsk yru ypl ynu yps yfi (nI (t + 1)) 0 xhm yrp yrq yrl (fun i => nI (M i)) yle ypr ywa ybp xbq ybo xsc yfn yat yhi ylo yen
theorem pl_ol {b : Nat → Nat} {f i : Nat} (h : ¬ pl_bad b f i) (h2 : pl_sz (b i) = 2) : b (i + 1) < pl_li b f (b i) := by
  unfold pl_bad at h
  omega
theorem st_A {t g h : Nat} {xs ys : Nat → Int32} {v w : Int32} (h8 : ∀ j, j < h → xs (t * 6 + j) = ys (t * 7 + j)) (hg : g ≤ h) (e : v = w) : ∀ j, j < g + 1 → upd xs (t * 6 + g) v (t * 6 + j) = upd ys (t * 7 + g) w (t * 7 + j) := by
  intro j hj
  by_cases ej : j = g
  · subst ej; rw [pk_us, pk_us]; exact e
  · rw [pk_un (by omega), pk_un (by omega)]; exact h8 j (by omega)
theorem lo_A {t o : Nat} {xs ys : Nat → Int32} {v w : Int32} (h9 : ∀ i, i < 5 → xs (t * 5 + i) = ys (t * 5 + i)) (e : v = w) : ∀ i, i < 5 → upd xs (t * 5 + o) v (t * 5 + i) = upd ys (t * 5 + o) w (t * 5 + i) := by
  intro i hi
  by_cases ei : i = o
  · subst ei; rw [pk_us, pk_us]; exact e
  · rw [pk_un (by omega), pk_un (by omega)]; exact h9 i hi
end D7

section D8
variable {r n : Nat} {pt M b : Nat → Nat} {xrc xbc xfc xrn xra xfi xfp xgn xac xlr : Int32} {xhm : Int64} {xrp xrA xrB xrC xby xhd xst xbg xco xen xre xld xim xic xih xif xop xbp xbq xsc xna xhe xlo xsk : Nat → Int32} {yru ypl ynu yps yfi yac yre : Int32} {yme : Int64} {yrp yrq yrl yby yle ypr ywa ybp ybq ybo ysc yfn yat yhi ylo yen : Nat → Int32}
theorem rn_o0 {t f a hh q st m p x : Nat} {q0 : Nat → Int32} (hV : rn_V M p x n xim xic xih xbp) (ih : rn_H x p q0 M m xrc xbc xfc xrn xra xfi xfp xgn xac xlr xhm xrp xrA xrB xrC xby xhd xst xbg xco xen xre xld xim xic xih xif xop xbp xbq xsc xna xhe xlo xsk yru ypl ynu yps yfi yac yre yme yrp yrq yrl yby yle ypr ywa ybp ybq ybo ysc yfn yat yhi ylo yen) (ht : t < 6) (hst : st + (m + 1) ≤ 2000) (hW : lv_W (re_b M p) p t xna xhe xlo xsk yfn yat yhi ylo yen) (hA : lv_A (re_b M p) p t f a hh xna xhe xlo xsk yfn yat yhi ylo yen) (hR : rr_R (re_b M p) f a hh)
    (hqs : ∀ y, y ≠ x → xbq y = q0 y) (hq : xbq x = nI q) (hq2 : q ≤ 2000) (hcq : pl_C (re_b M p) f a ≤ q) (hphi : q - pl_C (re_b M p) f a + pl_T (re_b M p) f (a + pl_sz (re_b M p a)) ≤ m) (hc : re_b M p a = 0) :
    rn_E x p q0 (m + 1) st xrc xbc xfc xrn xra xfi xfp xgn (nI (t + 1)) 0 xhm xrp xrA xrB xrC xby xhd xst xbg xco xen xre xld xim xic xih xif xop xbp xbq xsc xna xhe xlo xsk yru ypl ynu yps yfi (nI (t + 1)) 0 xhm yrp yrq yrl (fun i => nI (M i)) yle ypr ywa ybp xbq ybo xsc yfn yat yhi ylo yen := by
  have hA' := hA
  obtain ⟨a1, a2, a3, a4, a5, a6, a7, a8, a9⟩ := hA'
  obtain ⟨hp, hx, hv, ⟨hn, hF, hff⟩, him, hbp, hih⟩ := id hV
  have hI := hR.1
  have la := hI.1
  have he := pl_ef hF a1
  have bad := (hff f a1).1 a hI
  have rs := rr_s (hff f a1).2.2 (hff f a1).2.1 hR
  have hxc : xim (p * 120 + a) = nI 0 := by rw [him a (by omega), hc]
  have hqs' : ∀ y, y ≠ x → upd xbq x (nI (q - pl_C (re_b M p) f a)) y = q0 y := fun y hy => by rw [pk_un hy]; exact hqs y hy
  have tk : pl_tk (re_b M p) a = 0 := by simp [pl_tk, hc]
  have gv : pl_gv (re_b M p a) = 1 := by rw [hc]; rfl
  rw [tk, gv] at rs
  have esz : pl_sz (re_b M p a) = 2 := by rw [hc]; rfl
  rw [esz] at rs hphi
  have hw : a + 1 < pl_e (re_b M p) f := pl_wide bad esz
  have hxo : xim (p * 120 + (a + 1)) = nI (re_b M p (a + 1)) := him _ (by omega)
  have hol : re_b M p (a + 1) < pl_li (re_b M p) f (re_b M p a) := pl_ol bad esz
  obtain ⟨nx1, nx2⟩ := rs.2.2.2 (by omega) (by omega)
  have hl : hh < 6 := by have := rs.2.1; omega
  refine rn_next hV ht hA hI hq hq2 (by omega) hcq (fun P K => x_op0 (by omega) hp hx (by omega) hxc hxo a5 hl K) (fun P K => ?_) (ih (t) (f) (a + 2) (hh + 1) (q - pl_C (re_b M p) f a) (st + 1) (xhm) (upd xbq x (nI (q - pl_C (re_b M p) f a))) (xsc) (upd xna t (nI (p * 120 + (a + 2)))) (upd xhe t (nI (hh + 1))) (xlo) (upd xsk (t * 6 + hh) ((nI (re_b M p (a + 1))).toInt8.toInt32)) (yfn) (upd yat t (nI (p * 120 + (a + 2)))) (upd (upd yhi t (nI hh)) t (nI (hh + 1))) (ylo) (upd yen (t * 7 + hh) ((nI (re_b M p (a + 1))).toInt8.toInt32)) ht (by omega) (lv_c hW (fun l hl => ⟨by first | rfl | (rw [pk_un (by omega)]; done) | (rw [pk_un (by omega), pk_un (by omega)]; done) | (rw [pk_un (by omega), pk_un (by omega), pk_un (by omega)]; done), by first | rfl | (rw [pk_un (by omega)]; done) | (rw [pk_un (by omega), pk_un (by omega)]; done) | (rw [pk_un (by omega), pk_un (by omega), pk_un (by omega)]; done), by first | rfl | (rw [pk_un (by omega)]; done) | (rw [pk_un (by omega), pk_un (by omega)]; done) | (rw [pk_un (by omega), pk_un (by omega), pk_un (by omega)]; done), by first | rfl | (rw [pk_un (by omega)]; done) | (rw [pk_un (by omega), pk_un (by omega)]; done) | (rw [pk_un (by omega), pk_un (by omega), pk_un (by omega)]; done), by first | rfl | (rw [pk_un (by omega)]; done) | (rw [pk_un (by omega), pk_un (by omega)]; done) | (rw [pk_un (by omega), pk_un (by omega), pk_un (by omega)]; done), fun j hj => by first | rfl | (rw [pk_un (by omega)]; done) | (rw [pk_un (by omega), pk_un (by omega)]; done) | (rw [pk_un (by omega), pk_un (by omega), pk_un (by omega)]; done), fun j hj => by first | rfl | (rw [pk_un (by omega)]; done) | (rw [pk_un (by omega), pk_un (by omega)]; done) | (rw [pk_un (by omega), pk_un (by omega), pk_un (by omega)]; done), fun i hi => by first | rfl | (rw [pk_un (by omega)]; done) | (rw [pk_un (by omega), pk_un (by omega)]; done) | (rw [pk_un (by omega), pk_un (by omega), pk_un (by omega)]; done), fun i hi => by first | rfl | (rw [pk_un (by omega)]; done) | (rw [pk_un (by omega), pk_un (by omega)]; done) | (rw [pk_un (by omega), pk_un (by omega), pk_un (by omega)]; done)⟩)) ⟨a1, a2, pk_us, pk_us, pk_us, pk_us, by omega, st_A a8 (Nat.le_refl _) rfl, a9⟩ (by rw [show hh + 1 = hh - 0 + 1 by omega]; exact nx2) hqs' pk_us (by omega) hphi)
  rw [hc]
  exact y_op0 (by omega) (by omega) hx (by omega) hn hF a1 la bad hc rfl a6 a7 hl K
theorem rn_o1 {t f a hh q st m p x : Nat} {q0 : Nat → Int32} (hV : rn_V M p x n xim xic xih xbp) (ih : rn_H x p q0 M m xrc xbc xfc xrn xra xfi xfp xgn xac xlr xhm xrp xrA xrB xrC xby xhd xst xbg xco xen xre xld xim xic xih xif xop xbp xbq xsc xna xhe xlo xsk yru ypl ynu yps yfi yac yre yme yrp yrq yrl yby yle ypr ywa ybp ybq ybo ysc yfn yat yhi ylo yen) (ht : t < 6) (hst : st + (m + 1) ≤ 2000) (hW : lv_W (re_b M p) p t xna xhe xlo xsk yfn yat yhi ylo yen) (hA : lv_A (re_b M p) p t f a hh xna xhe xlo xsk yfn yat yhi ylo yen) (hR : rr_R (re_b M p) f a hh)
    (hqs : ∀ y, y ≠ x → xbq y = q0 y) (hq : xbq x = nI q) (hq2 : q ≤ 2000) (hcq : pl_C (re_b M p) f a ≤ q) (hphi : q - pl_C (re_b M p) f a + pl_T (re_b M p) f (a + pl_sz (re_b M p a)) ≤ m) (hc : re_b M p a = 1) :
    rn_E x p q0 (m + 1) st xrc xbc xfc xrn xra xfi xfp xgn (nI (t + 1)) 0 xhm xrp xrA xrB xrC xby xhd xst xbg xco xen xre xld xim xic xih xif xop xbp xbq xsc xna xhe xlo xsk yru ypl ynu yps yfi (nI (t + 1)) 0 xhm yrp yrq yrl (fun i => nI (M i)) yle ypr ywa ybp xbq ybo xsc yfn yat yhi ylo yen := by
  have hA' := hA
  obtain ⟨a1, a2, a3, a4, a5, a6, a7, a8, a9⟩ := hA'
  obtain ⟨hp, hx, hv, ⟨hn, hF, hff⟩, him, hbp, hih⟩ := id hV
  have hI := hR.1
  have la := hI.1
  have he := pl_ef hF a1
  have bad := (hff f a1).1 a hI
  have rs := rr_s (hff f a1).2.2 (hff f a1).2.1 hR
  have hxc : xim (p * 120 + a) = nI 1 := by rw [him a (by omega), hc]
  have hqs' : ∀ y, y ≠ x → upd xbq x (nI (q - pl_C (re_b M p) f a)) y = q0 y := fun y hy => by rw [pk_un hy]; exact hqs y hy
  have tk : pl_tk (re_b M p) a = 0 := by simp [pl_tk, hc]
  have gv : pl_gv (re_b M p a) = 1 := by rw [hc]; rfl
  rw [tk, gv] at rs
  have esz : pl_sz (re_b M p a) = 2 := by rw [hc]; rfl
  rw [esz] at rs hphi
  have hw : a + 1 < pl_e (re_b M p) f := pl_wide bad esz
  have hxo : xim (p * 120 + (a + 1)) = nI (re_b M p (a + 1)) := him _ (by omega)
  have hol : re_b M p (a + 1) < pl_li (re_b M p) f (re_b M p a) := pl_ol bad esz
  obtain ⟨nx1, nx2⟩ := rs.2.2.2 (by omega) (by omega)
  have ho5 : re_b M p (a + 1) < 5 := by
    have h1 := hF.2.2.2.2.1 f a1
    have h2 : pl_li (re_b M p) f (re_b M p a) = re_b M p (pl_hd (re_b M p) f) + re_b M p (pl_hd (re_b M p) f + 1) := by rw [hc]; rfl
    omega
  have hl : hh < 6 := by have := rs.2.1; omega
  refine rn_next hV ht hA hI hq hq2 (by omega) hcq (fun P K => x_op1 (by omega) hp hx (by omega) hxc hxo a5 hl ho5 K) (fun P K => ?_) (ih (t) (f) (a + 2) (hh + 1) (q - pl_C (re_b M p) f a) (st + 1) (xhm) (upd xbq x (nI (q - pl_C (re_b M p) f a))) (xsc) (upd xna t (nI (p * 120 + (a + 2)))) (upd xhe t (nI (hh + 1))) (xlo) (upd xsk (t * 6 + hh) (xlo (t * 5 + re_b M p (a + 1)))) (yfn) (upd yat t (nI (p * 120 + (a + 2)))) (upd (upd yhi t (nI hh)) t (nI (hh + 1))) (ylo) (upd yen (t * 7 + hh) (ylo (t * 5 + re_b M p (a + 1)))) ht (by omega) (lv_c hW (fun l hl => ⟨by first | rfl | (rw [pk_un (by omega)]; done) | (rw [pk_un (by omega), pk_un (by omega)]; done) | (rw [pk_un (by omega), pk_un (by omega), pk_un (by omega)]; done), by first | rfl | (rw [pk_un (by omega)]; done) | (rw [pk_un (by omega), pk_un (by omega)]; done) | (rw [pk_un (by omega), pk_un (by omega), pk_un (by omega)]; done), by first | rfl | (rw [pk_un (by omega)]; done) | (rw [pk_un (by omega), pk_un (by omega)]; done) | (rw [pk_un (by omega), pk_un (by omega), pk_un (by omega)]; done), by first | rfl | (rw [pk_un (by omega)]; done) | (rw [pk_un (by omega), pk_un (by omega)]; done) | (rw [pk_un (by omega), pk_un (by omega), pk_un (by omega)]; done), by first | rfl | (rw [pk_un (by omega)]; done) | (rw [pk_un (by omega), pk_un (by omega)]; done) | (rw [pk_un (by omega), pk_un (by omega), pk_un (by omega)]; done), fun j hj => by first | rfl | (rw [pk_un (by omega)]; done) | (rw [pk_un (by omega), pk_un (by omega)]; done) | (rw [pk_un (by omega), pk_un (by omega), pk_un (by omega)]; done), fun j hj => by first | rfl | (rw [pk_un (by omega)]; done) | (rw [pk_un (by omega), pk_un (by omega)]; done) | (rw [pk_un (by omega), pk_un (by omega), pk_un (by omega)]; done), fun i hi => by first | rfl | (rw [pk_un (by omega)]; done) | (rw [pk_un (by omega), pk_un (by omega)]; done) | (rw [pk_un (by omega), pk_un (by omega), pk_un (by omega)]; done), fun i hi => by first | rfl | (rw [pk_un (by omega)]; done) | (rw [pk_un (by omega), pk_un (by omega)]; done) | (rw [pk_un (by omega), pk_un (by omega), pk_un (by omega)]; done)⟩)) ⟨a1, a2, pk_us, pk_us, pk_us, pk_us, by omega, st_A a8 (Nat.le_refl _) (a9 _ ho5), a9⟩ (by rw [show hh + 1 = hh - 0 + 1 by omega]; exact nx2) hqs' pk_us (by omega) hphi)
  rw [hc]
  exact y_op1 (by omega) (by omega) hx (by omega) hn hF a1 la bad hc rfl a6 a7 hl ho5 K
theorem rn_o14 {t f a hh q st m p x : Nat} {q0 : Nat → Int32} (hV : rn_V M p x n xim xic xih xbp) (ih : rn_H x p q0 M m xrc xbc xfc xrn xra xfi xfp xgn xac xlr xhm xrp xrA xrB xrC xby xhd xst xbg xco xen xre xld xim xic xih xif xop xbp xbq xsc xna xhe xlo xsk yru ypl ynu yps yfi yac yre yme yrp yrq yrl yby yle ypr ywa ybp ybq ybo ysc yfn yat yhi ylo yen) (ht : t < 6) (hst : st + (m + 1) ≤ 2000) (hW : lv_W (re_b M p) p t xna xhe xlo xsk yfn yat yhi ylo yen) (hA : lv_A (re_b M p) p t f a hh xna xhe xlo xsk yfn yat yhi ylo yen) (hR : rr_R (re_b M p) f a hh)
    (hqs : ∀ y, y ≠ x → xbq y = q0 y) (hq : xbq x = nI q) (hq2 : q ≤ 2000) (hcq : pl_C (re_b M p) f a ≤ q) (hphi : q - pl_C (re_b M p) f a + pl_T (re_b M p) f (a + pl_sz (re_b M p a)) ≤ m) (hc : re_b M p a = 14) :
    rn_E x p q0 (m + 1) st xrc xbc xfc xrn xra xfi xfp xgn (nI (t + 1)) 0 xhm xrp xrA xrB xrC xby xhd xst xbg xco xen xre xld xim xic xih xif xop xbp xbq xsc xna xhe xlo xsk yru ypl ynu yps yfi (nI (t + 1)) 0 xhm yrp yrq yrl (fun i => nI (M i)) yle ypr ywa ybp xbq ybo xsc yfn yat yhi ylo yen := by
  have hA' := hA
  obtain ⟨a1, a2, a3, a4, a5, a6, a7, a8, a9⟩ := hA'
  obtain ⟨hp, hx, hv, ⟨hn, hF, hff⟩, him, hbp, hih⟩ := id hV
  have hI := hR.1
  have la := hI.1
  have he := pl_ef hF a1
  have bad := (hff f a1).1 a hI
  have rs := rr_s (hff f a1).2.2 (hff f a1).2.1 hR
  have hxc : xim (p * 120 + a) = nI 14 := by rw [him a (by omega), hc]
  have hqs' : ∀ y, y ≠ x → upd xbq x (nI (q - pl_C (re_b M p) f a)) y = q0 y := fun y hy => by rw [pk_un hy]; exact hqs y hy
  have tk : pl_tk (re_b M p) a = 0 := by simp [pl_tk, hc]
  have gv : pl_gv (re_b M p a) = 1 := by rw [hc]; rfl
  rw [tk, gv] at rs
  have esz : pl_sz (re_b M p a) = 2 := by rw [hc]; rfl
  rw [esz] at rs hphi
  have hw : a + 1 < pl_e (re_b M p) f := pl_wide bad esz
  have hxo : xim (p * 120 + (a + 1)) = nI (re_b M p (a + 1)) := him _ (by omega)
  have hol : re_b M p (a + 1) < pl_li (re_b M p) f (re_b M p a) := pl_ol bad esz
  obtain ⟨nx1, nx2⟩ := rs.2.2.2 (by omega) (by omega)
  have ho4 : re_b M p (a + 1) < 4 := by
    have h2 : pl_li (re_b M p) f (re_b M p a) = 4 := by rw [hc]; rfl
    omega
  have hl : hh < 6 := by have := rs.2.1; omega
  refine rn_next hV ht hA hI hq hq2 (by omega) hcq (fun P K => x_op14 (by omega) hp hx (by omega) hxc hxo a5 hl ho4 K) (fun P K => ?_) (ih (t) (f) (a + 2) (hh + 1) (q - pl_C (re_b M p) f a) (st + 1) (xhm) (upd xbq x (nI (q - pl_C (re_b M p) f a))) (xsc) (upd xna t (nI (p * 120 + (a + 2)))) (upd xhe t (nI (hh + 1))) (xlo) (upd xsk (t * 6 + hh) (xsc (x * 4 + re_b M p (a + 1)))) (yfn) (upd yat t (nI (p * 120 + (a + 2)))) (upd (upd yhi t (nI hh)) t (nI (hh + 1))) (ylo) (upd yen (t * 7 + hh) (xsc (x * 4 + re_b M p (a + 1)))) ht (by omega) (lv_c hW (fun l hl => ⟨by first | rfl | (rw [pk_un (by omega)]; done) | (rw [pk_un (by omega), pk_un (by omega)]; done) | (rw [pk_un (by omega), pk_un (by omega), pk_un (by omega)]; done), by first | rfl | (rw [pk_un (by omega)]; done) | (rw [pk_un (by omega), pk_un (by omega)]; done) | (rw [pk_un (by omega), pk_un (by omega), pk_un (by omega)]; done), by first | rfl | (rw [pk_un (by omega)]; done) | (rw [pk_un (by omega), pk_un (by omega)]; done) | (rw [pk_un (by omega), pk_un (by omega), pk_un (by omega)]; done), by first | rfl | (rw [pk_un (by omega)]; done) | (rw [pk_un (by omega), pk_un (by omega)]; done) | (rw [pk_un (by omega), pk_un (by omega), pk_un (by omega)]; done), by first | rfl | (rw [pk_un (by omega)]; done) | (rw [pk_un (by omega), pk_un (by omega)]; done) | (rw [pk_un (by omega), pk_un (by omega), pk_un (by omega)]; done), fun j hj => by first | rfl | (rw [pk_un (by omega)]; done) | (rw [pk_un (by omega), pk_un (by omega)]; done) | (rw [pk_un (by omega), pk_un (by omega), pk_un (by omega)]; done), fun j hj => by first | rfl | (rw [pk_un (by omega)]; done) | (rw [pk_un (by omega), pk_un (by omega)]; done) | (rw [pk_un (by omega), pk_un (by omega), pk_un (by omega)]; done), fun i hi => by first | rfl | (rw [pk_un (by omega)]; done) | (rw [pk_un (by omega), pk_un (by omega)]; done) | (rw [pk_un (by omega), pk_un (by omega), pk_un (by omega)]; done), fun i hi => by first | rfl | (rw [pk_un (by omega)]; done) | (rw [pk_un (by omega), pk_un (by omega)]; done) | (rw [pk_un (by omega), pk_un (by omega), pk_un (by omega)]; done)⟩)) ⟨a1, a2, pk_us, pk_us, pk_us, pk_us, by omega, st_A a8 (Nat.le_refl _) rfl, a9⟩ (by rw [show hh + 1 = hh - 0 + 1 by omega]; exact nx2) hqs' pk_us (by omega) hphi)
  rw [hc]
  exact y_op14 (by omega) (by omega) hx (by omega) hn hF a1 la bad hc rfl a6 a7 hl ho4 K
theorem rn_o3 {t f a hh q st m p x : Nat} {q0 : Nat → Int32} (hV : rn_V M p x n xim xic xih xbp) (ih : rn_H x p q0 M m xrc xbc xfc xrn xra xfi xfp xgn xac xlr xhm xrp xrA xrB xrC xby xhd xst xbg xco xen xre xld xim xic xih xif xop xbp xbq xsc xna xhe xlo xsk yru ypl ynu yps yfi yac yre yme yrp yrq yrl yby yle ypr ywa ybp ybq ybo ysc yfn yat yhi ylo yen) (ht : t < 6) (hst : st + (m + 1) ≤ 2000) (hW : lv_W (re_b M p) p t xna xhe xlo xsk yfn yat yhi ylo yen) (hA : lv_A (re_b M p) p t f a hh xna xhe xlo xsk yfn yat yhi ylo yen) (hR : rr_R (re_b M p) f a hh)
    (hqs : ∀ y, y ≠ x → xbq y = q0 y) (hq : xbq x = nI q) (hq2 : q ≤ 2000) (hcq : pl_C (re_b M p) f a ≤ q) (hphi : q - pl_C (re_b M p) f a + pl_T (re_b M p) f (a + pl_sz (re_b M p a)) ≤ m) (hc : re_b M p a = 3) :
    rn_E x p q0 (m + 1) st xrc xbc xfc xrn xra xfi xfp xgn (nI (t + 1)) 0 xhm xrp xrA xrB xrC xby xhd xst xbg xco xen xre xld xim xic xih xif xop xbp xbq xsc xna xhe xlo xsk yru ypl ynu yps yfi (nI (t + 1)) 0 xhm yrp yrq yrl (fun i => nI (M i)) yle ypr ywa ybp xbq ybo xsc yfn yat yhi ylo yen := by
  have hA' := hA
  obtain ⟨a1, a2, a3, a4, a5, a6, a7, a8, a9⟩ := hA'
  obtain ⟨hp, hx, hv, ⟨hn, hF, hff⟩, him, hbp, hih⟩ := id hV
  have hI := hR.1
  have la := hI.1
  have he := pl_ef hF a1
  have bad := (hff f a1).1 a hI
  have rs := rr_s (hff f a1).2.2 (hff f a1).2.1 hR
  have hxc : xim (p * 120 + a) = nI 3 := by rw [him a (by omega), hc]
  have hqs' : ∀ y, y ≠ x → upd xbq x (nI (q - pl_C (re_b M p) f a)) y = q0 y := fun y hy => by rw [pk_un hy]; exact hqs y hy
  have tk : pl_tk (re_b M p) a = 2 := by simp [pl_tk, hc]
  have gv : pl_gv (re_b M p a) = 1 := by rw [hc]; rfl
  rw [tk, gv] at rs
  have esz : pl_sz (re_b M p a) = 1 := by rw [hc]; rfl
  rw [esz] at rs hphi
  obtain ⟨nx1, nx2⟩ := rs.2.2.2 (by omega) (by omega)
  obtain ⟨g, rfl⟩ : ∃ g, hh = g + 2 := ⟨hh - 2, by have := rs.1; omega⟩
  have ev : xsk (t * 6 + g) = yen (t * 7 + g) := a8 g (by omega)
  have ew : xsk (t * 6 + (g + 1)) = yen (t * 7 + (g + 1)) := a8 (g + 1) (by omega)
  refine rn_next hV ht hA hI hq hq2 (by omega) hcq (fun P K => x_op3 (o := 0) (by omega) hp hx (by omega) hxc a5 (by omega) (fun _ v e => by subst e; exact K)) (fun P K => ?_) (ih (t) (f) (a + 1) (g + 1) (q - pl_C (re_b M p) f a) (st + 1) (xhm) (upd xbq x (nI (q - pl_C (re_b M p) f a))) (xsc) (upd xna t (nI (p * 120 + (a + 1)))) (upd (upd (upd xhe t (nI (g + 1))) t (nI g)) t (nI (g + 1))) (xlo) (upd xsk (t * 6 + g) (al_v 3 (xsk (t * 6 + g)) (xsk (t * 6 + (g + 1))))) (yfn) (upd yat t (nI (p * 120 + (a + 1)))) (upd (upd yhi t (nI g)) t (nI (g + 1))) (ylo) (upd yen (t * 7 + g) (al_v 3 (yen (t * 7 + g)) (yen (t * 7 + (g + 1))))) ht (by omega) (lv_c hW (fun l hl => ⟨by first | rfl | (rw [pk_un (by omega)]; done) | (rw [pk_un (by omega), pk_un (by omega)]; done) | (rw [pk_un (by omega), pk_un (by omega), pk_un (by omega)]; done), by first | rfl | (rw [pk_un (by omega)]; done) | (rw [pk_un (by omega), pk_un (by omega)]; done) | (rw [pk_un (by omega), pk_un (by omega), pk_un (by omega)]; done), by first | rfl | (rw [pk_un (by omega)]; done) | (rw [pk_un (by omega), pk_un (by omega)]; done) | (rw [pk_un (by omega), pk_un (by omega), pk_un (by omega)]; done), by first | rfl | (rw [pk_un (by omega)]; done) | (rw [pk_un (by omega), pk_un (by omega)]; done) | (rw [pk_un (by omega), pk_un (by omega), pk_un (by omega)]; done), by first | rfl | (rw [pk_un (by omega)]; done) | (rw [pk_un (by omega), pk_un (by omega)]; done) | (rw [pk_un (by omega), pk_un (by omega), pk_un (by omega)]; done), fun j hj => by first | rfl | (rw [pk_un (by omega)]; done) | (rw [pk_un (by omega), pk_un (by omega)]; done) | (rw [pk_un (by omega), pk_un (by omega), pk_un (by omega)]; done), fun j hj => by first | rfl | (rw [pk_un (by omega)]; done) | (rw [pk_un (by omega), pk_un (by omega)]; done) | (rw [pk_un (by omega), pk_un (by omega), pk_un (by omega)]; done), fun i hi => by first | rfl | (rw [pk_un (by omega)]; done) | (rw [pk_un (by omega), pk_un (by omega)]; done) | (rw [pk_un (by omega), pk_un (by omega), pk_un (by omega)]; done), fun i hi => by first | rfl | (rw [pk_un (by omega)]; done) | (rw [pk_un (by omega), pk_un (by omega)]; done) | (rw [pk_un (by omega), pk_un (by omega), pk_un (by omega)]; done)⟩)) ⟨a1, a2, pk_us, pk_us, pk_us, pk_us, by omega, st_A a8 (by omega) (by rw [ev, ew]), a9⟩ (by rw [show g + 1 = g + 2 - 2 + 1 by omega]; exact nx2) hqs' pk_us (by omega) hphi)
  rw [hc]
  exact y_op3 (o := 0) (by omega) (by omega) hx (by omega) hn hF a1 la bad hc a6 a7 (by omega) (fun v e => by subst e; exact K)
theorem rn_o4 {t f a hh q st m p x : Nat} {q0 : Nat → Int32} (hV : rn_V M p x n xim xic xih xbp) (ih : rn_H x p q0 M m xrc xbc xfc xrn xra xfi xfp xgn xac xlr xhm xrp xrA xrB xrC xby xhd xst xbg xco xen xre xld xim xic xih xif xop xbp xbq xsc xna xhe xlo xsk yru ypl ynu yps yfi yac yre yme yrp yrq yrl yby yle ypr ywa ybp ybq ybo ysc yfn yat yhi ylo yen) (ht : t < 6) (hst : st + (m + 1) ≤ 2000) (hW : lv_W (re_b M p) p t xna xhe xlo xsk yfn yat yhi ylo yen) (hA : lv_A (re_b M p) p t f a hh xna xhe xlo xsk yfn yat yhi ylo yen) (hR : rr_R (re_b M p) f a hh)
    (hqs : ∀ y, y ≠ x → xbq y = q0 y) (hq : xbq x = nI q) (hq2 : q ≤ 2000) (hcq : pl_C (re_b M p) f a ≤ q) (hphi : q - pl_C (re_b M p) f a + pl_T (re_b M p) f (a + pl_sz (re_b M p a)) ≤ m) (hc : re_b M p a = 4) :
    rn_E x p q0 (m + 1) st xrc xbc xfc xrn xra xfi xfp xgn (nI (t + 1)) 0 xhm xrp xrA xrB xrC xby xhd xst xbg xco xen xre xld xim xic xih xif xop xbp xbq xsc xna xhe xlo xsk yru ypl ynu yps yfi (nI (t + 1)) 0 xhm yrp yrq yrl (fun i => nI (M i)) yle ypr ywa ybp xbq ybo xsc yfn yat yhi ylo yen := by
  have hA' := hA
  obtain ⟨a1, a2, a3, a4, a5, a6, a7, a8, a9⟩ := hA'
  obtain ⟨hp, hx, hv, ⟨hn, hF, hff⟩, him, hbp, hih⟩ := id hV
  have hI := hR.1
  have la := hI.1
  have he := pl_ef hF a1
  have bad := (hff f a1).1 a hI
  have rs := rr_s (hff f a1).2.2 (hff f a1).2.1 hR
  have hxc : xim (p * 120 + a) = nI 4 := by rw [him a (by omega), hc]
  have hqs' : ∀ y, y ≠ x → upd xbq x (nI (q - pl_C (re_b M p) f a)) y = q0 y := fun y hy => by rw [pk_un hy]; exact hqs y hy
  have tk : pl_tk (re_b M p) a = 2 := by simp [pl_tk, hc]
  have gv : pl_gv (re_b M p a) = 1 := by rw [hc]; rfl
  rw [tk, gv] at rs
  have esz : pl_sz (re_b M p a) = 1 := by rw [hc]; rfl
  rw [esz] at rs hphi
  obtain ⟨nx1, nx2⟩ := rs.2.2.2 (by omega) (by omega)
  obtain ⟨g, rfl⟩ : ∃ g, hh = g + 2 := ⟨hh - 2, by have := rs.1; omega⟩
  have ev : xsk (t * 6 + g) = yen (t * 7 + g) := a8 g (by omega)
  have ew : xsk (t * 6 + (g + 1)) = yen (t * 7 + (g + 1)) := a8 (g + 1) (by omega)
  refine rn_next hV ht hA hI hq hq2 (by omega) hcq (fun P K => x_op4 (o := 0) (by omega) hp hx (by omega) hxc a5 (by omega) (fun _ v e => by subst e; exact K)) (fun P K => ?_) (ih (t) (f) (a + 1) (g + 1) (q - pl_C (re_b M p) f a) (st + 1) (xhm) (upd xbq x (nI (q - pl_C (re_b M p) f a))) (xsc) (upd xna t (nI (p * 120 + (a + 1)))) (upd (upd (upd xhe t (nI (g + 1))) t (nI g)) t (nI (g + 1))) (xlo) (upd xsk (t * 6 + g) (al_v 4 (xsk (t * 6 + g)) (xsk (t * 6 + (g + 1))))) (yfn) (upd yat t (nI (p * 120 + (a + 1)))) (upd (upd yhi t (nI g)) t (nI (g + 1))) (ylo) (upd yen (t * 7 + g) (al_v 4 (yen (t * 7 + g)) (yen (t * 7 + (g + 1))))) ht (by omega) (lv_c hW (fun l hl => ⟨by first | rfl | (rw [pk_un (by omega)]; done) | (rw [pk_un (by omega), pk_un (by omega)]; done) | (rw [pk_un (by omega), pk_un (by omega), pk_un (by omega)]; done), by first | rfl | (rw [pk_un (by omega)]; done) | (rw [pk_un (by omega), pk_un (by omega)]; done) | (rw [pk_un (by omega), pk_un (by omega), pk_un (by omega)]; done), by first | rfl | (rw [pk_un (by omega)]; done) | (rw [pk_un (by omega), pk_un (by omega)]; done) | (rw [pk_un (by omega), pk_un (by omega), pk_un (by omega)]; done), by first | rfl | (rw [pk_un (by omega)]; done) | (rw [pk_un (by omega), pk_un (by omega)]; done) | (rw [pk_un (by omega), pk_un (by omega), pk_un (by omega)]; done), by first | rfl | (rw [pk_un (by omega)]; done) | (rw [pk_un (by omega), pk_un (by omega)]; done) | (rw [pk_un (by omega), pk_un (by omega), pk_un (by omega)]; done), fun j hj => by first | rfl | (rw [pk_un (by omega)]; done) | (rw [pk_un (by omega), pk_un (by omega)]; done) | (rw [pk_un (by omega), pk_un (by omega), pk_un (by omega)]; done), fun j hj => by first | rfl | (rw [pk_un (by omega)]; done) | (rw [pk_un (by omega), pk_un (by omega)]; done) | (rw [pk_un (by omega), pk_un (by omega), pk_un (by omega)]; done), fun i hi => by first | rfl | (rw [pk_un (by omega)]; done) | (rw [pk_un (by omega), pk_un (by omega)]; done) | (rw [pk_un (by omega), pk_un (by omega), pk_un (by omega)]; done), fun i hi => by first | rfl | (rw [pk_un (by omega)]; done) | (rw [pk_un (by omega), pk_un (by omega)]; done) | (rw [pk_un (by omega), pk_un (by omega), pk_un (by omega)]; done)⟩)) ⟨a1, a2, pk_us, pk_us, pk_us, pk_us, by omega, st_A a8 (by omega) (by rw [ev, ew]), a9⟩ (by rw [show g + 1 = g + 2 - 2 + 1 by omega]; exact nx2) hqs' pk_us (by omega) hphi)
  rw [hc]
  exact y_op4 (o := 0) (by omega) (by omega) hx (by omega) hn hF a1 la bad hc a6 a7 (by omega) (fun v e => by subst e; exact K)
theorem rn_o5 {t f a hh q st m p x : Nat} {q0 : Nat → Int32} (hV : rn_V M p x n xim xic xih xbp) (ih : rn_H x p q0 M m xrc xbc xfc xrn xra xfi xfp xgn xac xlr xhm xrp xrA xrB xrC xby xhd xst xbg xco xen xre xld xim xic xih xif xop xbp xbq xsc xna xhe xlo xsk yru ypl ynu yps yfi yac yre yme yrp yrq yrl yby yle ypr ywa ybp ybq ybo ysc yfn yat yhi ylo yen) (ht : t < 6) (hst : st + (m + 1) ≤ 2000) (hW : lv_W (re_b M p) p t xna xhe xlo xsk yfn yat yhi ylo yen) (hA : lv_A (re_b M p) p t f a hh xna xhe xlo xsk yfn yat yhi ylo yen) (hR : rr_R (re_b M p) f a hh)
    (hqs : ∀ y, y ≠ x → xbq y = q0 y) (hq : xbq x = nI q) (hq2 : q ≤ 2000) (hcq : pl_C (re_b M p) f a ≤ q) (hphi : q - pl_C (re_b M p) f a + pl_T (re_b M p) f (a + pl_sz (re_b M p a)) ≤ m) (hc : re_b M p a = 5) :
    rn_E x p q0 (m + 1) st xrc xbc xfc xrn xra xfi xfp xgn (nI (t + 1)) 0 xhm xrp xrA xrB xrC xby xhd xst xbg xco xen xre xld xim xic xih xif xop xbp xbq xsc xna xhe xlo xsk yru ypl ynu yps yfi (nI (t + 1)) 0 xhm yrp yrq yrl (fun i => nI (M i)) yle ypr ywa ybp xbq ybo xsc yfn yat yhi ylo yen := by
  have hA' := hA
  obtain ⟨a1, a2, a3, a4, a5, a6, a7, a8, a9⟩ := hA'
  obtain ⟨hp, hx, hv, ⟨hn, hF, hff⟩, him, hbp, hih⟩ := id hV
  have hI := hR.1
  have la := hI.1
  have he := pl_ef hF a1
  have bad := (hff f a1).1 a hI
  have rs := rr_s (hff f a1).2.2 (hff f a1).2.1 hR
  have hxc : xim (p * 120 + a) = nI 5 := by rw [him a (by omega), hc]
  have hqs' : ∀ y, y ≠ x → upd xbq x (nI (q - pl_C (re_b M p) f a)) y = q0 y := fun y hy => by rw [pk_un hy]; exact hqs y hy
  have tk : pl_tk (re_b M p) a = 2 := by simp [pl_tk, hc]
  have gv : pl_gv (re_b M p a) = 1 := by rw [hc]; rfl
  rw [tk, gv] at rs
  have esz : pl_sz (re_b M p a) = 1 := by rw [hc]; rfl
  rw [esz] at rs hphi
  obtain ⟨nx1, nx2⟩ := rs.2.2.2 (by omega) (by omega)
  obtain ⟨g, rfl⟩ : ∃ g, hh = g + 2 := ⟨hh - 2, by have := rs.1; omega⟩
  have ev : xsk (t * 6 + g) = yen (t * 7 + g) := a8 g (by omega)
  have ew : xsk (t * 6 + (g + 1)) = yen (t * 7 + (g + 1)) := a8 (g + 1) (by omega)
  refine rn_next hV ht hA hI hq hq2 (by omega) hcq (fun P K => x_op5 (o := 0) (by omega) hp hx (by omega) hxc a5 (by omega) (fun _ v e => by subst e; exact K)) (fun P K => ?_) (ih (t) (f) (a + 1) (g + 1) (q - pl_C (re_b M p) f a) (st + 1) (xhm) (upd xbq x (nI (q - pl_C (re_b M p) f a))) (xsc) (upd xna t (nI (p * 120 + (a + 1)))) (upd (upd (upd xhe t (nI (g + 1))) t (nI g)) t (nI (g + 1))) (xlo) (upd xsk (t * 6 + g) (al_v 5 (xsk (t * 6 + g)) (xsk (t * 6 + (g + 1))))) (yfn) (upd yat t (nI (p * 120 + (a + 1)))) (upd (upd yhi t (nI g)) t (nI (g + 1))) (ylo) (upd yen (t * 7 + g) (al_v 5 (yen (t * 7 + g)) (yen (t * 7 + (g + 1))))) ht (by omega) (lv_c hW (fun l hl => ⟨by first | rfl | (rw [pk_un (by omega)]; done) | (rw [pk_un (by omega), pk_un (by omega)]; done) | (rw [pk_un (by omega), pk_un (by omega), pk_un (by omega)]; done), by first | rfl | (rw [pk_un (by omega)]; done) | (rw [pk_un (by omega), pk_un (by omega)]; done) | (rw [pk_un (by omega), pk_un (by omega), pk_un (by omega)]; done), by first | rfl | (rw [pk_un (by omega)]; done) | (rw [pk_un (by omega), pk_un (by omega)]; done) | (rw [pk_un (by omega), pk_un (by omega), pk_un (by omega)]; done), by first | rfl | (rw [pk_un (by omega)]; done) | (rw [pk_un (by omega), pk_un (by omega)]; done) | (rw [pk_un (by omega), pk_un (by omega), pk_un (by omega)]; done), by first | rfl | (rw [pk_un (by omega)]; done) | (rw [pk_un (by omega), pk_un (by omega)]; done) | (rw [pk_un (by omega), pk_un (by omega), pk_un (by omega)]; done), fun j hj => by first | rfl | (rw [pk_un (by omega)]; done) | (rw [pk_un (by omega), pk_un (by omega)]; done) | (rw [pk_un (by omega), pk_un (by omega), pk_un (by omega)]; done), fun j hj => by first | rfl | (rw [pk_un (by omega)]; done) | (rw [pk_un (by omega), pk_un (by omega)]; done) | (rw [pk_un (by omega), pk_un (by omega), pk_un (by omega)]; done), fun i hi => by first | rfl | (rw [pk_un (by omega)]; done) | (rw [pk_un (by omega), pk_un (by omega)]; done) | (rw [pk_un (by omega), pk_un (by omega), pk_un (by omega)]; done), fun i hi => by first | rfl | (rw [pk_un (by omega)]; done) | (rw [pk_un (by omega), pk_un (by omega)]; done) | (rw [pk_un (by omega), pk_un (by omega), pk_un (by omega)]; done)⟩)) ⟨a1, a2, pk_us, pk_us, pk_us, pk_us, by omega, st_A a8 (by omega) (by rw [ev, ew]), a9⟩ (by rw [show g + 1 = g + 2 - 2 + 1 by omega]; exact nx2) hqs' pk_us (by omega) hphi)
  rw [hc]
  exact y_op5 (o := 0) (by omega) (by omega) hx (by omega) hn hF a1 la bad hc a6 a7 (by omega) (fun v e => by subst e; exact K)
theorem rn_o6 {t f a hh q st m p x : Nat} {q0 : Nat → Int32} (hV : rn_V M p x n xim xic xih xbp) (ih : rn_H x p q0 M m xrc xbc xfc xrn xra xfi xfp xgn xac xlr xhm xrp xrA xrB xrC xby xhd xst xbg xco xen xre xld xim xic xih xif xop xbp xbq xsc xna xhe xlo xsk yru ypl ynu yps yfi yac yre yme yrp yrq yrl yby yle ypr ywa ybp ybq ybo ysc yfn yat yhi ylo yen) (ht : t < 6) (hst : st + (m + 1) ≤ 2000) (hW : lv_W (re_b M p) p t xna xhe xlo xsk yfn yat yhi ylo yen) (hA : lv_A (re_b M p) p t f a hh xna xhe xlo xsk yfn yat yhi ylo yen) (hR : rr_R (re_b M p) f a hh)
    (hqs : ∀ y, y ≠ x → xbq y = q0 y) (hq : xbq x = nI q) (hq2 : q ≤ 2000) (hcq : pl_C (re_b M p) f a ≤ q) (hphi : q - pl_C (re_b M p) f a + pl_T (re_b M p) f (a + pl_sz (re_b M p a)) ≤ m) (hc : re_b M p a = 6) :
    rn_E x p q0 (m + 1) st xrc xbc xfc xrn xra xfi xfp xgn (nI (t + 1)) 0 xhm xrp xrA xrB xrC xby xhd xst xbg xco xen xre xld xim xic xih xif xop xbp xbq xsc xna xhe xlo xsk yru ypl ynu yps yfi (nI (t + 1)) 0 xhm yrp yrq yrl (fun i => nI (M i)) yle ypr ywa ybp xbq ybo xsc yfn yat yhi ylo yen := by
  have hA' := hA
  obtain ⟨a1, a2, a3, a4, a5, a6, a7, a8, a9⟩ := hA'
  obtain ⟨hp, hx, hv, ⟨hn, hF, hff⟩, him, hbp, hih⟩ := id hV
  have hI := hR.1
  have la := hI.1
  have he := pl_ef hF a1
  have bad := (hff f a1).1 a hI
  have rs := rr_s (hff f a1).2.2 (hff f a1).2.1 hR
  have hxc : xim (p * 120 + a) = nI 6 := by rw [him a (by omega), hc]
  have hqs' : ∀ y, y ≠ x → upd xbq x (nI (q - pl_C (re_b M p) f a)) y = q0 y := fun y hy => by rw [pk_un hy]; exact hqs y hy
  have tk : pl_tk (re_b M p) a = 2 := by simp [pl_tk, hc]
  have gv : pl_gv (re_b M p a) = 1 := by rw [hc]; rfl
  rw [tk, gv] at rs
  have esz : pl_sz (re_b M p a) = 1 := by rw [hc]; rfl
  rw [esz] at rs hphi
  obtain ⟨nx1, nx2⟩ := rs.2.2.2 (by omega) (by omega)
  obtain ⟨g, rfl⟩ : ∃ g, hh = g + 2 := ⟨hh - 2, by have := rs.1; omega⟩
  have ev : xsk (t * 6 + g) = yen (t * 7 + g) := a8 g (by omega)
  have ew : xsk (t * 6 + (g + 1)) = yen (t * 7 + (g + 1)) := a8 (g + 1) (by omega)
  by_cases z : xsk (t * 6 + (g + 1)) = 0
  · refine rn_fin (w := 2) (xlr1 := 0) (yac1 := nI (t + 1)) (fn1 := yfn) (at1 := yat) (hi1 := yhi) (yl1 := ylo) (en1 := yen) hV ht hA hI hq hq2 (by omega) hcq (by decide) (by decide) hqs (fun P K => x_op6 (o := 0) (by omega) hp hx (by omega) hxc a5 (by omega) (fun _ => K) fun nz => absurd ⟨rfl, z⟩ nz) (fun P K => ?_)
    rw [hc]
    exact y_op6 (o := 0) (by omega) (by omega) hx (by omega) hn hF a1 la bad hc a6 a7 (by omega) (fun _ => K) fun nz => absurd (ew ▸ z) nz
  refine rn_next hV ht hA hI hq hq2 (by omega) hcq (fun P K => x_op6 (o := 0) (by omega) hp hx (by omega) hxc a5 (by omega) (fun z' => absurd z' z) (fun _ v e => by subst e; exact K)) (fun P K => ?_) (ih (t) (f) (a + 1) (g + 1) (q - pl_C (re_b M p) f a) (st + 1) (xhm) (upd xbq x (nI (q - pl_C (re_b M p) f a))) (xsc) (upd xna t (nI (p * 120 + (a + 1)))) (upd (upd (upd xhe t (nI (g + 1))) t (nI g)) t (nI (g + 1))) (xlo) (upd xsk (t * 6 + g) (al_v 6 (xsk (t * 6 + g)) (xsk (t * 6 + (g + 1))))) (yfn) (upd yat t (nI (p * 120 + (a + 1)))) (upd (upd yhi t (nI g)) t (nI (g + 1))) (ylo) (upd yen (t * 7 + g) (al_v 6 (yen (t * 7 + g)) (yen (t * 7 + (g + 1))))) ht (by omega) (lv_c hW (fun l hl => ⟨by first | rfl | (rw [pk_un (by omega)]; done) | (rw [pk_un (by omega), pk_un (by omega)]; done) | (rw [pk_un (by omega), pk_un (by omega), pk_un (by omega)]; done), by first | rfl | (rw [pk_un (by omega)]; done) | (rw [pk_un (by omega), pk_un (by omega)]; done) | (rw [pk_un (by omega), pk_un (by omega), pk_un (by omega)]; done), by first | rfl | (rw [pk_un (by omega)]; done) | (rw [pk_un (by omega), pk_un (by omega)]; done) | (rw [pk_un (by omega), pk_un (by omega), pk_un (by omega)]; done), by first | rfl | (rw [pk_un (by omega)]; done) | (rw [pk_un (by omega), pk_un (by omega)]; done) | (rw [pk_un (by omega), pk_un (by omega), pk_un (by omega)]; done), by first | rfl | (rw [pk_un (by omega)]; done) | (rw [pk_un (by omega), pk_un (by omega)]; done) | (rw [pk_un (by omega), pk_un (by omega), pk_un (by omega)]; done), fun j hj => by first | rfl | (rw [pk_un (by omega)]; done) | (rw [pk_un (by omega), pk_un (by omega)]; done) | (rw [pk_un (by omega), pk_un (by omega), pk_un (by omega)]; done), fun j hj => by first | rfl | (rw [pk_un (by omega)]; done) | (rw [pk_un (by omega), pk_un (by omega)]; done) | (rw [pk_un (by omega), pk_un (by omega), pk_un (by omega)]; done), fun i hi => by first | rfl | (rw [pk_un (by omega)]; done) | (rw [pk_un (by omega), pk_un (by omega)]; done) | (rw [pk_un (by omega), pk_un (by omega), pk_un (by omega)]; done), fun i hi => by first | rfl | (rw [pk_un (by omega)]; done) | (rw [pk_un (by omega), pk_un (by omega)]; done) | (rw [pk_un (by omega), pk_un (by omega), pk_un (by omega)]; done)⟩)) ⟨a1, a2, pk_us, pk_us, pk_us, pk_us, by omega, st_A a8 (by omega) (by rw [ev, ew]), a9⟩ (by rw [show g + 1 = g + 2 - 2 + 1 by omega]; exact nx2) hqs' pk_us (by omega) hphi)
  rw [hc]
  exact y_op6 (o := 0) (by omega) (by omega) hx (by omega) hn hF a1 la bad hc a6 a7 (by omega) (fun z' => absurd (ew.trans z') z) (fun _ v e => by subst e; exact K)
theorem rn_o7 {t f a hh q st m p x : Nat} {q0 : Nat → Int32} (hV : rn_V M p x n xim xic xih xbp) (ih : rn_H x p q0 M m xrc xbc xfc xrn xra xfi xfp xgn xac xlr xhm xrp xrA xrB xrC xby xhd xst xbg xco xen xre xld xim xic xih xif xop xbp xbq xsc xna xhe xlo xsk yru ypl ynu yps yfi yac yre yme yrp yrq yrl yby yle ypr ywa ybp ybq ybo ysc yfn yat yhi ylo yen) (ht : t < 6) (hst : st + (m + 1) ≤ 2000) (hW : lv_W (re_b M p) p t xna xhe xlo xsk yfn yat yhi ylo yen) (hA : lv_A (re_b M p) p t f a hh xna xhe xlo xsk yfn yat yhi ylo yen) (hR : rr_R (re_b M p) f a hh)
    (hqs : ∀ y, y ≠ x → xbq y = q0 y) (hq : xbq x = nI q) (hq2 : q ≤ 2000) (hcq : pl_C (re_b M p) f a ≤ q) (hphi : q - pl_C (re_b M p) f a + pl_T (re_b M p) f (a + pl_sz (re_b M p a)) ≤ m) (hc : re_b M p a = 7) :
    rn_E x p q0 (m + 1) st xrc xbc xfc xrn xra xfi xfp xgn (nI (t + 1)) 0 xhm xrp xrA xrB xrC xby xhd xst xbg xco xen xre xld xim xic xih xif xop xbp xbq xsc xna xhe xlo xsk yru ypl ynu yps yfi (nI (t + 1)) 0 xhm yrp yrq yrl (fun i => nI (M i)) yle ypr ywa ybp xbq ybo xsc yfn yat yhi ylo yen := by
  have hA' := hA
  obtain ⟨a1, a2, a3, a4, a5, a6, a7, a8, a9⟩ := hA'
  obtain ⟨hp, hx, hv, ⟨hn, hF, hff⟩, him, hbp, hih⟩ := id hV
  have hI := hR.1
  have la := hI.1
  have he := pl_ef hF a1
  have bad := (hff f a1).1 a hI
  have rs := rr_s (hff f a1).2.2 (hff f a1).2.1 hR
  have hxc : xim (p * 120 + a) = nI 7 := by rw [him a (by omega), hc]
  have hqs' : ∀ y, y ≠ x → upd xbq x (nI (q - pl_C (re_b M p) f a)) y = q0 y := fun y hy => by rw [pk_un hy]; exact hqs y hy
  have tk : pl_tk (re_b M p) a = 2 := by simp [pl_tk, hc]
  have gv : pl_gv (re_b M p a) = 1 := by rw [hc]; rfl
  rw [tk, gv] at rs
  have esz : pl_sz (re_b M p a) = 1 := by rw [hc]; rfl
  rw [esz] at rs hphi
  obtain ⟨nx1, nx2⟩ := rs.2.2.2 (by omega) (by omega)
  obtain ⟨g, rfl⟩ : ∃ g, hh = g + 2 := ⟨hh - 2, by have := rs.1; omega⟩
  have ev : xsk (t * 6 + g) = yen (t * 7 + g) := a8 g (by omega)
  have ew : xsk (t * 6 + (g + 1)) = yen (t * 7 + (g + 1)) := a8 (g + 1) (by omega)
  refine rn_next hV ht hA hI hq hq2 (by omega) hcq (fun P K => x_op7 (o := 0) (by omega) hp hx (by omega) hxc a5 (by omega) (fun _ v e => by subst e; exact K)) (fun P K => ?_) (ih (t) (f) (a + 1) (g + 1) (q - pl_C (re_b M p) f a) (st + 1) (xhm) (upd xbq x (nI (q - pl_C (re_b M p) f a))) (xsc) (upd xna t (nI (p * 120 + (a + 1)))) (upd (upd (upd xhe t (nI (g + 1))) t (nI g)) t (nI (g + 1))) (xlo) (upd xsk (t * 6 + g) (al_v 7 (xsk (t * 6 + g)) (xsk (t * 6 + (g + 1))))) (yfn) (upd yat t (nI (p * 120 + (a + 1)))) (upd (upd yhi t (nI g)) t (nI (g + 1))) (ylo) (upd yen (t * 7 + g) (al_v 7 (yen (t * 7 + g)) (yen (t * 7 + (g + 1))))) ht (by omega) (lv_c hW (fun l hl => ⟨by first | rfl | (rw [pk_un (by omega)]; done) | (rw [pk_un (by omega), pk_un (by omega)]; done) | (rw [pk_un (by omega), pk_un (by omega), pk_un (by omega)]; done), by first | rfl | (rw [pk_un (by omega)]; done) | (rw [pk_un (by omega), pk_un (by omega)]; done) | (rw [pk_un (by omega), pk_un (by omega), pk_un (by omega)]; done), by first | rfl | (rw [pk_un (by omega)]; done) | (rw [pk_un (by omega), pk_un (by omega)]; done) | (rw [pk_un (by omega), pk_un (by omega), pk_un (by omega)]; done), by first | rfl | (rw [pk_un (by omega)]; done) | (rw [pk_un (by omega), pk_un (by omega)]; done) | (rw [pk_un (by omega), pk_un (by omega), pk_un (by omega)]; done), by first | rfl | (rw [pk_un (by omega)]; done) | (rw [pk_un (by omega), pk_un (by omega)]; done) | (rw [pk_un (by omega), pk_un (by omega), pk_un (by omega)]; done), fun j hj => by first | rfl | (rw [pk_un (by omega)]; done) | (rw [pk_un (by omega), pk_un (by omega)]; done) | (rw [pk_un (by omega), pk_un (by omega), pk_un (by omega)]; done), fun j hj => by first | rfl | (rw [pk_un (by omega)]; done) | (rw [pk_un (by omega), pk_un (by omega)]; done) | (rw [pk_un (by omega), pk_un (by omega), pk_un (by omega)]; done), fun i hi => by first | rfl | (rw [pk_un (by omega)]; done) | (rw [pk_un (by omega), pk_un (by omega)]; done) | (rw [pk_un (by omega), pk_un (by omega), pk_un (by omega)]; done), fun i hi => by first | rfl | (rw [pk_un (by omega)]; done) | (rw [pk_un (by omega), pk_un (by omega)]; done) | (rw [pk_un (by omega), pk_un (by omega), pk_un (by omega)]; done)⟩)) ⟨a1, a2, pk_us, pk_us, pk_us, pk_us, by omega, st_A a8 (by omega) (by rw [ev, ew]), a9⟩ (by rw [show g + 1 = g + 2 - 2 + 1 by omega]; exact nx2) hqs' pk_us (by omega) hphi)
  rw [hc]
  exact y_op7 (o := 0) (by omega) (by omega) hx (by omega) hn hF a1 la bad hc a6 a7 (by omega) (fun v e => by subst e; exact K)
theorem rn_o2 {t f a hh q st m p x : Nat} {q0 : Nat → Int32} (hV : rn_V M p x n xim xic xih xbp) (ih : rn_H x p q0 M m xrc xbc xfc xrn xra xfi xfp xgn xac xlr xhm xrp xrA xrB xrC xby xhd xst xbg xco xen xre xld xim xic xih xif xop xbp xbq xsc xna xhe xlo xsk yru ypl ynu yps yfi yac yre yme yrp yrq yrl yby yle ypr ywa ybp ybq ybo ysc yfn yat yhi ylo yen) (ht : t < 6) (hst : st + (m + 1) ≤ 2000) (hW : lv_W (re_b M p) p t xna xhe xlo xsk yfn yat yhi ylo yen) (hA : lv_A (re_b M p) p t f a hh xna xhe xlo xsk yfn yat yhi ylo yen) (hR : rr_R (re_b M p) f a hh)
    (hqs : ∀ y, y ≠ x → xbq y = q0 y) (hq : xbq x = nI q) (hq2 : q ≤ 2000) (hcq : pl_C (re_b M p) f a ≤ q) (hphi : q - pl_C (re_b M p) f a + pl_T (re_b M p) f (a + pl_sz (re_b M p a)) ≤ m) (hc : re_b M p a = 2) :
    rn_E x p q0 (m + 1) st xrc xbc xfc xrn xra xfi xfp xgn (nI (t + 1)) 0 xhm xrp xrA xrB xrC xby xhd xst xbg xco xen xre xld xim xic xih xif xop xbp xbq xsc xna xhe xlo xsk yru ypl ynu yps yfi (nI (t + 1)) 0 xhm yrp yrq yrl (fun i => nI (M i)) yle ypr ywa ybp xbq ybo xsc yfn yat yhi ylo yen := by
  have hA' := hA
  obtain ⟨a1, a2, a3, a4, a5, a6, a7, a8, a9⟩ := hA'
  obtain ⟨hp, hx, hv, ⟨hn, hF, hff⟩, him, hbp, hih⟩ := id hV
  have hI := hR.1
  have la := hI.1
  have he := pl_ef hF a1
  have bad := (hff f a1).1 a hI
  have rs := rr_s (hff f a1).2.2 (hff f a1).2.1 hR
  have hxc : xim (p * 120 + a) = nI 2 := by rw [him a (by omega), hc]
  have hqs' : ∀ y, y ≠ x → upd xbq x (nI (q - pl_C (re_b M p) f a)) y = q0 y := fun y hy => by rw [pk_un hy]; exact hqs y hy
  have tk : pl_tk (re_b M p) a = 1 := by simp [pl_tk, hc]
  have gv : pl_gv (re_b M p a) = 0 := by rw [hc]; rfl
  rw [tk, gv] at rs
  have esz : pl_sz (re_b M p a) = 2 := by rw [hc]; rfl
  rw [esz] at rs hphi
  have hw : a + 1 < pl_e (re_b M p) f := pl_wide bad esz
  have hxo : xim (p * 120 + (a + 1)) = nI (re_b M p (a + 1)) := him _ (by omega)
  have hol : re_b M p (a + 1) < pl_li (re_b M p) f (re_b M p a) := pl_ol bad esz
  obtain ⟨nx1, nx2⟩ := rs.2.2.2 (by omega) (by omega)
  obtain ⟨g, rfl⟩ : ∃ g, hh = g + 1 := ⟨hh - 1, by have := rs.1; omega⟩
  have ho5 : re_b M p (a + 1) < 5 := by
    have h1 := hF.2.2.2.2.1 f a1
    have h2 : pl_li (re_b M p) f (re_b M p a) = re_b M p (pl_hd (re_b M p) f) + re_b M p (pl_hd (re_b M p) f + 1) := by rw [hc]; rfl
    omega
  refine rn_next hV ht hA hI hq hq2 (by omega) hcq (fun P K => x_op2 (by omega) hp hx (by omega) hxc hxo a5 (by omega) ho5 K) (fun P K => ?_) (ih (t) (f) (a + 2) (g) (q - pl_C (re_b M p) f a) (st + 1) (xhm) (upd xbq x (nI (q - pl_C (re_b M p) f a))) (xsc) (upd xna t (nI (p * 120 + (a + 2)))) (upd xhe t (nI g)) (upd xlo (t * 5 + re_b M p (a + 1)) (xsk (t * 6 + g))) (xsk) (yfn) (upd yat t (nI (p * 120 + (a + 2)))) (upd yhi t (nI g)) (upd ylo (t * 5 + re_b M p (a + 1)) (yen (t * 7 + g))) (yen) ht (by omega) (lv_c hW (fun l hl => ⟨by first | rfl | (rw [pk_un (by omega)]; done) | (rw [pk_un (by omega), pk_un (by omega)]; done) | (rw [pk_un (by omega), pk_un (by omega), pk_un (by omega)]; done), by first | rfl | (rw [pk_un (by omega)]; done) | (rw [pk_un (by omega), pk_un (by omega)]; done) | (rw [pk_un (by omega), pk_un (by omega), pk_un (by omega)]; done), by first | rfl | (rw [pk_un (by omega)]; done) | (rw [pk_un (by omega), pk_un (by omega)]; done) | (rw [pk_un (by omega), pk_un (by omega), pk_un (by omega)]; done), by first | rfl | (rw [pk_un (by omega)]; done) | (rw [pk_un (by omega), pk_un (by omega)]; done) | (rw [pk_un (by omega), pk_un (by omega), pk_un (by omega)]; done), by first | rfl | (rw [pk_un (by omega)]; done) | (rw [pk_un (by omega), pk_un (by omega)]; done) | (rw [pk_un (by omega), pk_un (by omega), pk_un (by omega)]; done), fun j hj => by first | rfl | (rw [pk_un (by omega)]; done) | (rw [pk_un (by omega), pk_un (by omega)]; done) | (rw [pk_un (by omega), pk_un (by omega), pk_un (by omega)]; done), fun j hj => by first | rfl | (rw [pk_un (by omega)]; done) | (rw [pk_un (by omega), pk_un (by omega)]; done) | (rw [pk_un (by omega), pk_un (by omega), pk_un (by omega)]; done), fun i hi => by first | rfl | (rw [pk_un (by omega)]; done) | (rw [pk_un (by omega), pk_un (by omega)]; done) | (rw [pk_un (by omega), pk_un (by omega), pk_un (by omega)]; done), fun i hi => by first | rfl | (rw [pk_un (by omega)]; done) | (rw [pk_un (by omega), pk_un (by omega)]; done) | (rw [pk_un (by omega), pk_un (by omega), pk_un (by omega)]; done)⟩)) ⟨a1, a2, pk_us, pk_us, pk_us, pk_us, by omega, fun j hj => a8 j (by omega), lo_A a9 (a8 g (by omega))⟩ (by rw [show g = g + 1 - 1 + 0 by omega]; exact nx2) hqs' pk_us (by omega) hphi)
  rw [hc]
  exact y_op2 (by omega) (by omega) hx (by omega) hn hF a1 la bad hc rfl a6 a7 ho5 K
theorem rn_o8 {t f a hh q st m p x : Nat} {q0 : Nat → Int32} (hV : rn_V M p x n xim xic xih xbp) (ih : rn_H x p q0 M m xrc xbc xfc xrn xra xfi xfp xgn xac xlr xhm xrp xrA xrB xrC xby xhd xst xbg xco xen xre xld xim xic xih xif xop xbp xbq xsc xna xhe xlo xsk yru ypl ynu yps yfi yac yre yme yrp yrq yrl yby yle ypr ywa ybp ybq ybo ysc yfn yat yhi ylo yen) (ht : t < 6) (hst : st + (m + 1) ≤ 2000) (hW : lv_W (re_b M p) p t xna xhe xlo xsk yfn yat yhi ylo yen) (hA : lv_A (re_b M p) p t f a hh xna xhe xlo xsk yfn yat yhi ylo yen) (hR : rr_R (re_b M p) f a hh)
    (hqs : ∀ y, y ≠ x → xbq y = q0 y) (hq : xbq x = nI q) (hq2 : q ≤ 2000) (hcq : pl_C (re_b M p) f a ≤ q) (hphi : q - pl_C (re_b M p) f a + pl_T (re_b M p) f (a + pl_sz (re_b M p a)) ≤ m) (hc : re_b M p a = 8) :
    rn_E x p q0 (m + 1) st xrc xbc xfc xrn xra xfi xfp xgn (nI (t + 1)) 0 xhm xrp xrA xrB xrC xby xhd xst xbg xco xen xre xld xim xic xih xif xop xbp xbq xsc xna xhe xlo xsk yru ypl ynu yps yfi (nI (t + 1)) 0 xhm yrp yrq yrl (fun i => nI (M i)) yle ypr ywa ybp xbq ybo xsc yfn yat yhi ylo yen := by
  have hA' := hA
  obtain ⟨a1, a2, a3, a4, a5, a6, a7, a8, a9⟩ := hA'
  obtain ⟨hp, hx, hv, ⟨hn, hF, hff⟩, him, hbp, hih⟩ := id hV
  have hI := hR.1
  have la := hI.1
  have he := pl_ef hF a1
  have bad := (hff f a1).1 a hI
  have rs := rr_s (hff f a1).2.2 (hff f a1).2.1 hR
  have hxc : xim (p * 120 + a) = nI 8 := by rw [him a (by omega), hc]
  have hqs' : ∀ y, y ≠ x → upd xbq x (nI (q - pl_C (re_b M p) f a)) y = q0 y := fun y hy => by rw [pk_un hy]; exact hqs y hy
  have tk : pl_tk (re_b M p) a = 1 := by simp [pl_tk, hc]
  have gv : pl_gv (re_b M p a) = 2 := by rw [hc]; rfl
  rw [tk, gv] at rs
  have esz : pl_sz (re_b M p a) = 1 := by rw [hc]; rfl
  rw [esz] at rs hphi
  obtain ⟨nx1, nx2⟩ := rs.2.2.2 (by omega) (by omega)
  obtain ⟨g, rfl⟩ : ∃ g, hh = g + 1 := ⟨hh - 1, by have := rs.1; omega⟩
  have ev : xsk (t * 6 + g) = yen (t * 7 + g) := a8 g (by omega)
  have hl : g < 5 := by have := rs.2.1; omega
  refine rn_next hV ht hA hI hq hq2 (by omega) hcq (fun P K => x_op8 (o := 0) (by omega) hp hx (by omega) hxc a5 hl K) (fun P K => ?_) (ih (t) (f) (a + 1) (g + 1 + 1) (q - pl_C (re_b M p) f a) (st + 1) (xhm) (upd xbq x (nI (q - pl_C (re_b M p) f a))) (xsc) (upd xna t (nI (p * 120 + (a + 1)))) (upd (upd (upd xhe t (nI g)) t (nI (g + 1))) t (nI (g + 1 + 1))) (xlo) (upd (upd xsk (t * 6 + g) (xsk (t * 6 + g))) (t * 6 + (g + 1)) (xsk (t * 6 + g))) (yfn) (upd yat t (nI (p * 120 + (a + 1)))) (upd (upd (upd yhi t (nI g)) t (nI (g + 1))) t (nI (g + 1 + 1))) (ylo) (upd (upd yen (t * 7 + g) (yen (t * 7 + g))) (t * 7 + (g + 1)) (yen (t * 7 + g))) ht (by omega) (lv_c hW (fun l hl => ⟨by first | rfl | (rw [pk_un (by omega)]; done) | (rw [pk_un (by omega), pk_un (by omega)]; done) | (rw [pk_un (by omega), pk_un (by omega), pk_un (by omega)]; done), by first | rfl | (rw [pk_un (by omega)]; done) | (rw [pk_un (by omega), pk_un (by omega)]; done) | (rw [pk_un (by omega), pk_un (by omega), pk_un (by omega)]; done), by first | rfl | (rw [pk_un (by omega)]; done) | (rw [pk_un (by omega), pk_un (by omega)]; done) | (rw [pk_un (by omega), pk_un (by omega), pk_un (by omega)]; done), by first | rfl | (rw [pk_un (by omega)]; done) | (rw [pk_un (by omega), pk_un (by omega)]; done) | (rw [pk_un (by omega), pk_un (by omega), pk_un (by omega)]; done), by first | rfl | (rw [pk_un (by omega)]; done) | (rw [pk_un (by omega), pk_un (by omega)]; done) | (rw [pk_un (by omega), pk_un (by omega), pk_un (by omega)]; done), fun j hj => by first | rfl | (rw [pk_un (by omega)]; done) | (rw [pk_un (by omega), pk_un (by omega)]; done) | (rw [pk_un (by omega), pk_un (by omega), pk_un (by omega)]; done), fun j hj => by first | rfl | (rw [pk_un (by omega)]; done) | (rw [pk_un (by omega), pk_un (by omega)]; done) | (rw [pk_un (by omega), pk_un (by omega), pk_un (by omega)]; done), fun i hi => by first | rfl | (rw [pk_un (by omega)]; done) | (rw [pk_un (by omega), pk_un (by omega)]; done) | (rw [pk_un (by omega), pk_un (by omega), pk_un (by omega)]; done), fun i hi => by first | rfl | (rw [pk_un (by omega)]; done) | (rw [pk_un (by omega), pk_un (by omega)]; done) | (rw [pk_un (by omega), pk_un (by omega), pk_un (by omega)]; done)⟩)) ⟨a1, a2, pk_us, pk_us, pk_us, pk_us, by omega, st_A (st_A a8 (by omega) ev) (Nat.le_refl _) ev, a9⟩ (by rw [show g + 1 + 1 = g + 1 - 1 + 2 by omega]; exact nx2) hqs' pk_us (by omega) hphi)
  rw [hc]
  exact y_op8 (o := 0) (by omega) (by omega) hx (by omega) hn hF a1 la bad hc a6 a7 hl K
theorem rn_o9 {t f a hh q st m p x : Nat} {q0 : Nat → Int32} (hV : rn_V M p x n xim xic xih xbp) (ih : rn_H x p q0 M m xrc xbc xfc xrn xra xfi xfp xgn xac xlr xhm xrp xrA xrB xrC xby xhd xst xbg xco xen xre xld xim xic xih xif xop xbp xbq xsc xna xhe xlo xsk yru ypl ynu yps yfi yac yre yme yrp yrq yrl yby yle ypr ywa ybp ybq ybo ysc yfn yat yhi ylo yen) (ht : t < 6) (hst : st + (m + 1) ≤ 2000) (hW : lv_W (re_b M p) p t xna xhe xlo xsk yfn yat yhi ylo yen) (hA : lv_A (re_b M p) p t f a hh xna xhe xlo xsk yfn yat yhi ylo yen) (hR : rr_R (re_b M p) f a hh)
    (hqs : ∀ y, y ≠ x → xbq y = q0 y) (hq : xbq x = nI q) (hq2 : q ≤ 2000) (hcq : pl_C (re_b M p) f a ≤ q) (hphi : q - pl_C (re_b M p) f a + pl_T (re_b M p) f (a + pl_sz (re_b M p a)) ≤ m) (hc : re_b M p a = 9) :
    rn_E x p q0 (m + 1) st xrc xbc xfc xrn xra xfi xfp xgn (nI (t + 1)) 0 xhm xrp xrA xrB xrC xby xhd xst xbg xco xen xre xld xim xic xih xif xop xbp xbq xsc xna xhe xlo xsk yru ypl ynu yps yfi (nI (t + 1)) 0 xhm yrp yrq yrl (fun i => nI (M i)) yle ypr ywa ybp xbq ybo xsc yfn yat yhi ylo yen := by
  have hA' := hA
  obtain ⟨a1, a2, a3, a4, a5, a6, a7, a8, a9⟩ := hA'
  obtain ⟨hp, hx, hv, ⟨hn, hF, hff⟩, him, hbp, hih⟩ := id hV
  have hI := hR.1
  have la := hI.1
  have he := pl_ef hF a1
  have bad := (hff f a1).1 a hI
  have rs := rr_s (hff f a1).2.2 (hff f a1).2.1 hR
  have hxc : xim (p * 120 + a) = nI 9 := by rw [him a (by omega), hc]
  have hqs' : ∀ y, y ≠ x → upd xbq x (nI (q - pl_C (re_b M p) f a)) y = q0 y := fun y hy => by rw [pk_un hy]; exact hqs y hy
  have tk : pl_tk (re_b M p) a = 1 := by simp [pl_tk, hc]
  have gv : pl_gv (re_b M p a) = 0 := by rw [hc]; rfl
  rw [tk, gv] at rs
  have esz : pl_sz (re_b M p a) = 1 := by rw [hc]; rfl
  rw [esz] at rs hphi
  obtain ⟨nx1, nx2⟩ := rs.2.2.2 (by omega) (by omega)
  obtain ⟨g, rfl⟩ : ∃ g, hh = g + 1 := ⟨hh - 1, by have := rs.1; omega⟩
  refine rn_next hV ht hA hI hq hq2 (by omega) hcq (fun P K => x_op9 (o := 0) (by omega) hp hx (by omega) hxc a5 (by omega) K) (fun P K => ?_) (ih (t) (f) (a + 1) (g) (q - pl_C (re_b M p) f a) (st + 1) (xhm) (upd xbq x (nI (q - pl_C (re_b M p) f a))) (xsc) (upd xna t (nI (p * 120 + (a + 1)))) (upd xhe t (nI g)) (xlo) (xsk) (yfn) (upd yat t (nI (p * 120 + (a + 1)))) (upd yhi t (nI g)) (ylo) (yen) ht (by omega) (lv_c hW (fun l hl => ⟨by first | rfl | (rw [pk_un (by omega)]; done) | (rw [pk_un (by omega), pk_un (by omega)]; done) | (rw [pk_un (by omega), pk_un (by omega), pk_un (by omega)]; done), by first | rfl | (rw [pk_un (by omega)]; done) | (rw [pk_un (by omega), pk_un (by omega)]; done) | (rw [pk_un (by omega), pk_un (by omega), pk_un (by omega)]; done), by first | rfl | (rw [pk_un (by omega)]; done) | (rw [pk_un (by omega), pk_un (by omega)]; done) | (rw [pk_un (by omega), pk_un (by omega), pk_un (by omega)]; done), by first | rfl | (rw [pk_un (by omega)]; done) | (rw [pk_un (by omega), pk_un (by omega)]; done) | (rw [pk_un (by omega), pk_un (by omega), pk_un (by omega)]; done), by first | rfl | (rw [pk_un (by omega)]; done) | (rw [pk_un (by omega), pk_un (by omega)]; done) | (rw [pk_un (by omega), pk_un (by omega), pk_un (by omega)]; done), fun j hj => by first | rfl | (rw [pk_un (by omega)]; done) | (rw [pk_un (by omega), pk_un (by omega)]; done) | (rw [pk_un (by omega), pk_un (by omega), pk_un (by omega)]; done), fun j hj => by first | rfl | (rw [pk_un (by omega)]; done) | (rw [pk_un (by omega), pk_un (by omega)]; done) | (rw [pk_un (by omega), pk_un (by omega), pk_un (by omega)]; done), fun i hi => by first | rfl | (rw [pk_un (by omega)]; done) | (rw [pk_un (by omega), pk_un (by omega)]; done) | (rw [pk_un (by omega), pk_un (by omega), pk_un (by omega)]; done), fun i hi => by first | rfl | (rw [pk_un (by omega)]; done) | (rw [pk_un (by omega), pk_un (by omega)]; done) | (rw [pk_un (by omega), pk_un (by omega), pk_un (by omega)]; done)⟩)) ⟨a1, a2, pk_us, pk_us, pk_us, pk_us, by omega, fun j hj => a8 j (by omega), a9⟩ (by rw [show g = g + 1 - 1 + 0 by omega]; exact nx2) hqs' pk_us (by omega) hphi)
  rw [hc]
  exact y_op9 (o := 0) (by omega) (by omega) hx (by omega) hn hF a1 la bad hc a6 a7 K
theorem rn_o15 {t f a hh q st m p x : Nat} {q0 : Nat → Int32} (hV : rn_V M p x n xim xic xih xbp) (ih : rn_H x p q0 M m xrc xbc xfc xrn xra xfi xfp xgn xac xlr xhm xrp xrA xrB xrC xby xhd xst xbg xco xen xre xld xim xic xih xif xop xbp xbq xsc xna xhe xlo xsk yru ypl ynu yps yfi yac yre yme yrp yrq yrl yby yle ypr ywa ybp ybq ybo ysc yfn yat yhi ylo yen) (ht : t < 6) (hst : st + (m + 1) ≤ 2000) (hW : lv_W (re_b M p) p t xna xhe xlo xsk yfn yat yhi ylo yen) (hA : lv_A (re_b M p) p t f a hh xna xhe xlo xsk yfn yat yhi ylo yen) (hR : rr_R (re_b M p) f a hh)
    (hqs : ∀ y, y ≠ x → xbq y = q0 y) (hq : xbq x = nI q) (hq2 : q ≤ 2000) (hcq : pl_C (re_b M p) f a ≤ q) (hphi : q - pl_C (re_b M p) f a + pl_T (re_b M p) f (a + pl_sz (re_b M p a)) ≤ m) (hc : re_b M p a = 15) :
    rn_E x p q0 (m + 1) st xrc xbc xfc xrn xra xfi xfp xgn (nI (t + 1)) 0 xhm xrp xrA xrB xrC xby xhd xst xbg xco xen xre xld xim xic xih xif xop xbp xbq xsc xna xhe xlo xsk yru ypl ynu yps yfi (nI (t + 1)) 0 xhm yrp yrq yrl (fun i => nI (M i)) yle ypr ywa ybp xbq ybo xsc yfn yat yhi ylo yen := by
  have hA' := hA
  obtain ⟨a1, a2, a3, a4, a5, a6, a7, a8, a9⟩ := hA'
  obtain ⟨hp, hx, hv, ⟨hn, hF, hff⟩, him, hbp, hih⟩ := id hV
  have hI := hR.1
  have la := hI.1
  have he := pl_ef hF a1
  have bad := (hff f a1).1 a hI
  have rs := rr_s (hff f a1).2.2 (hff f a1).2.1 hR
  have hxc : xim (p * 120 + a) = nI 15 := by rw [him a (by omega), hc]
  have hqs' : ∀ y, y ≠ x → upd xbq x (nI (q - pl_C (re_b M p) f a)) y = q0 y := fun y hy => by rw [pk_un hy]; exact hqs y hy
  have tk : pl_tk (re_b M p) a = 1 := by simp [pl_tk, hc]
  have gv : pl_gv (re_b M p a) = 0 := by rw [hc]; rfl
  rw [tk, gv] at rs
  have esz : pl_sz (re_b M p a) = 2 := by rw [hc]; rfl
  rw [esz] at rs hphi
  have hw : a + 1 < pl_e (re_b M p) f := pl_wide bad esz
  have hxo : xim (p * 120 + (a + 1)) = nI (re_b M p (a + 1)) := him _ (by omega)
  have hol : re_b M p (a + 1) < pl_li (re_b M p) f (re_b M p a) := pl_ol bad esz
  obtain ⟨nx1, nx2⟩ := rs.2.2.2 (by omega) (by omega)
  obtain ⟨g, rfl⟩ : ∃ g, hh = g + 1 := ⟨hh - 1, by have := rs.1; omega⟩
  have ho4 : re_b M p (a + 1) < 4 := by
    have h2 : pl_li (re_b M p) f (re_b M p a) = 4 := by rw [hc]; rfl
    omega
  have ev : xsk (t * 6 + g) = yen (t * 7 + g) := a8 g (by omega)
  refine rn_next hV ht hA hI hq hq2 (by omega) hcq (fun P K => x_op15 (by omega) hp hx (by omega) hxc hxo a5 (by omega) ho4 K) (fun P K => ?_) (ih (t) (f) (a + 2) (g) (q - pl_C (re_b M p) f a) (st + 1) (xhm) (upd xbq x (nI (q - pl_C (re_b M p) f a))) (upd xsc (x * 4 + re_b M p (a + 1)) (xsk (t * 6 + g))) (upd xna t (nI (p * 120 + (a + 2)))) (upd xhe t (nI g)) (xlo) (xsk) (yfn) (upd yat t (nI (p * 120 + (a + 2)))) (upd yhi t (nI g)) (ylo) (yen) ht (by omega) (lv_c hW (fun l hl => ⟨by first | rfl | (rw [pk_un (by omega)]; done) | (rw [pk_un (by omega), pk_un (by omega)]; done) | (rw [pk_un (by omega), pk_un (by omega), pk_un (by omega)]; done), by first | rfl | (rw [pk_un (by omega)]; done) | (rw [pk_un (by omega), pk_un (by omega)]; done) | (rw [pk_un (by omega), pk_un (by omega), pk_un (by omega)]; done), by first | rfl | (rw [pk_un (by omega)]; done) | (rw [pk_un (by omega), pk_un (by omega)]; done) | (rw [pk_un (by omega), pk_un (by omega), pk_un (by omega)]; done), by first | rfl | (rw [pk_un (by omega)]; done) | (rw [pk_un (by omega), pk_un (by omega)]; done) | (rw [pk_un (by omega), pk_un (by omega), pk_un (by omega)]; done), by first | rfl | (rw [pk_un (by omega)]; done) | (rw [pk_un (by omega), pk_un (by omega)]; done) | (rw [pk_un (by omega), pk_un (by omega), pk_un (by omega)]; done), fun j hj => by first | rfl | (rw [pk_un (by omega)]; done) | (rw [pk_un (by omega), pk_un (by omega)]; done) | (rw [pk_un (by omega), pk_un (by omega), pk_un (by omega)]; done), fun j hj => by first | rfl | (rw [pk_un (by omega)]; done) | (rw [pk_un (by omega), pk_un (by omega)]; done) | (rw [pk_un (by omega), pk_un (by omega), pk_un (by omega)]; done), fun i hi => by first | rfl | (rw [pk_un (by omega)]; done) | (rw [pk_un (by omega), pk_un (by omega)]; done) | (rw [pk_un (by omega), pk_un (by omega), pk_un (by omega)]; done), fun i hi => by first | rfl | (rw [pk_un (by omega)]; done) | (rw [pk_un (by omega), pk_un (by omega)]; done) | (rw [pk_un (by omega), pk_un (by omega), pk_un (by omega)]; done)⟩)) ⟨a1, a2, pk_us, pk_us, pk_us, pk_us, by omega, fun j hj => a8 j (by omega), a9⟩ (by rw [show g = g + 1 - 1 + 0 by omega]; exact nx2) hqs' pk_us (by omega) hphi)
  rw [hc]
  rw [ev] at K
  exact y_op15 (by omega) (by omega) hx (by omega) hn hF a1 la bad hc rfl a6 a7 ho4 K
theorem rn_o10 {t f a hh q st m p x : Nat} {q0 : Nat → Int32} (hV : rn_V M p x n xim xic xih xbp) (ih : rn_H x p q0 M m xrc xbc xfc xrn xra xfi xfp xgn xac xlr xhm xrp xrA xrB xrC xby xhd xst xbg xco xen xre xld xim xic xih xif xop xbp xbq xsc xna xhe xlo xsk yru ypl ynu yps yfi yac yre yme yrp yrq yrl yby yle ypr ywa ybp ybq ybo ysc yfn yat yhi ylo yen) (ht : t < 6) (hst : st + (m + 1) ≤ 2000) (hW : lv_W (re_b M p) p t xna xhe xlo xsk yfn yat yhi ylo yen) (hA : lv_A (re_b M p) p t f a hh xna xhe xlo xsk yfn yat yhi ylo yen) (hR : rr_R (re_b M p) f a hh)
    (hqs : ∀ y, y ≠ x → xbq y = q0 y) (hq : xbq x = nI q) (hq2 : q ≤ 2000) (hcq : pl_C (re_b M p) f a ≤ q) (hphi : q - pl_C (re_b M p) f a + pl_T (re_b M p) f (a + pl_sz (re_b M p a)) ≤ m) (hc : re_b M p a = 10) :
    rn_E x p q0 (m + 1) st xrc xbc xfc xrn xra xfi xfp xgn (nI (t + 1)) 0 xhm xrp xrA xrB xrC xby xhd xst xbg xco xen xre xld xim xic xih xif xop xbp xbq xsc xna xhe xlo xsk yru ypl ynu yps yfi (nI (t + 1)) 0 xhm yrp yrq yrl (fun i => nI (M i)) yle ypr ywa ybp xbq ybo xsc yfn yat yhi ylo yen := by
  have hA' := hA
  obtain ⟨a1, a2, a3, a4, a5, a6, a7, a8, a9⟩ := hA'
  obtain ⟨hp, hx, hv, ⟨hn, hF, hff⟩, him, hbp, hih⟩ := id hV
  have hI := hR.1
  have la := hI.1
  have he := pl_ef hF a1
  have bad := (hff f a1).1 a hI
  have rs := rr_s (hff f a1).2.2 (hff f a1).2.1 hR
  have hxc : xim (p * 120 + a) = nI 10 := by rw [him a (by omega), hc]
  have hqs' : ∀ y, y ≠ x → upd xbq x (nI (q - pl_C (re_b M p) f a)) y = q0 y := fun y hy => by rw [pk_un hy]; exact hqs y hy
  have tk : pl_tk (re_b M p) a = 0 := by simp [pl_tk, hc]
  have gv : pl_gv (re_b M p a) = 0 := by rw [hc]; rfl
  rw [tk, gv] at rs
  have esz : pl_sz (re_b M p a) = 2 := by rw [hc]; rfl
  rw [esz] at rs hphi
  have hw : a + 1 < pl_e (re_b M p) f := pl_wide bad esz
  have hxo : xim (p * 120 + (a + 1)) = nI (re_b M p (a + 1)) := him _ (by omega)
  have hol : re_b M p (a + 1) < pl_li (re_b M p) f (re_b M p a) := pl_ol bad esz
  obtain ⟨j, ej, lj, rj⟩ := rs.2.2.1 (by omega)
  have hL : pl_L (re_b M p) f j := Or.inr ⟨a, hI, Or.inl ⟨by omega, ej⟩⟩
  refine rn_next hV ht hA hI hq hq2 (by omega) hcq (fun P K => x_op10 (h := 0) (by omega) hp hx (by omega) hxc hxo (y_hvb hv p _) ej (by omega) K) (fun P K => ?_) (ih (t) (f) (j) (hh) (q - pl_C (re_b M p) f a) (st + 1) (xhm) (upd xbq x (nI (q - pl_C (re_b M p) f a))) (xsc) (upd (upd xna t (nI (p * 120 + (a + 2)))) t (nI (p * 120 + j))) (xhe) (xlo) (xsk) (yfn) (upd yat t (nI (p * 120 + j))) (upd yhi t (nI hh)) (ylo) (yen) ht (by omega) (lv_c hW (fun l hl => ⟨by first | rfl | (rw [pk_un (by omega)]; done) | (rw [pk_un (by omega), pk_un (by omega)]; done) | (rw [pk_un (by omega), pk_un (by omega), pk_un (by omega)]; done), by first | rfl | (rw [pk_un (by omega)]; done) | (rw [pk_un (by omega), pk_un (by omega)]; done) | (rw [pk_un (by omega), pk_un (by omega), pk_un (by omega)]; done), by first | rfl | (rw [pk_un (by omega)]; done) | (rw [pk_un (by omega), pk_un (by omega)]; done) | (rw [pk_un (by omega), pk_un (by omega), pk_un (by omega)]; done), by first | rfl | (rw [pk_un (by omega)]; done) | (rw [pk_un (by omega), pk_un (by omega)]; done) | (rw [pk_un (by omega), pk_un (by omega), pk_un (by omega)]; done), by first | rfl | (rw [pk_un (by omega)]; done) | (rw [pk_un (by omega), pk_un (by omega)]; done) | (rw [pk_un (by omega), pk_un (by omega), pk_un (by omega)]; done), fun j hj => by first | rfl | (rw [pk_un (by omega)]; done) | (rw [pk_un (by omega), pk_un (by omega)]; done) | (rw [pk_un (by omega), pk_un (by omega), pk_un (by omega)]; done), fun j hj => by first | rfl | (rw [pk_un (by omega)]; done) | (rw [pk_un (by omega), pk_un (by omega)]; done) | (rw [pk_un (by omega), pk_un (by omega), pk_un (by omega)]; done), fun i hi => by first | rfl | (rw [pk_un (by omega)]; done) | (rw [pk_un (by omega), pk_un (by omega)]; done) | (rw [pk_un (by omega), pk_un (by omega), pk_un (by omega)]; done), fun i hi => by first | rfl | (rw [pk_un (by omega)]; done) | (rw [pk_un (by omega), pk_un (by omega)]; done) | (rw [pk_un (by omega), pk_un (by omega), pk_un (by omega)]; done)⟩)) ⟨a1, a2, pk_us, pk_us, a5, pk_us, a7, a8, a9⟩ (by rw [show hh = hh - 0 + 0 by omega]; exact rj) hqs' pk_us (by omega) (by rw [pl_T_L hL]; omega))
  rw [hc]
  exact y_op10 (by omega) (by omega) hx (by omega) hn hF a1 la bad hc rfl a6 a7 hv ej (by omega) K
theorem rn_o11 {t f a hh q st m p x : Nat} {q0 : Nat → Int32} (hV : rn_V M p x n xim xic xih xbp) (ih : rn_H x p q0 M m xrc xbc xfc xrn xra xfi xfp xgn xac xlr xhm xrp xrA xrB xrC xby xhd xst xbg xco xen xre xld xim xic xih xif xop xbp xbq xsc xna xhe xlo xsk yru ypl ynu yps yfi yac yre yme yrp yrq yrl yby yle ypr ywa ybp ybq ybo ysc yfn yat yhi ylo yen) (ht : t < 6) (hst : st + (m + 1) ≤ 2000) (hW : lv_W (re_b M p) p t xna xhe xlo xsk yfn yat yhi ylo yen) (hA : lv_A (re_b M p) p t f a hh xna xhe xlo xsk yfn yat yhi ylo yen) (hR : rr_R (re_b M p) f a hh)
    (hqs : ∀ y, y ≠ x → xbq y = q0 y) (hq : xbq x = nI q) (hq2 : q ≤ 2000) (hcq : pl_C (re_b M p) f a ≤ q) (hphi : q - pl_C (re_b M p) f a + pl_T (re_b M p) f (a + pl_sz (re_b M p a)) ≤ m) (hc : re_b M p a = 11) :
    rn_E x p q0 (m + 1) st xrc xbc xfc xrn xra xfi xfp xgn (nI (t + 1)) 0 xhm xrp xrA xrB xrC xby xhd xst xbg xco xen xre xld xim xic xih xif xop xbp xbq xsc xna xhe xlo xsk yru ypl ynu yps yfi (nI (t + 1)) 0 xhm yrp yrq yrl (fun i => nI (M i)) yle ypr ywa ybp xbq ybo xsc yfn yat yhi ylo yen := by
  have hA' := hA
  obtain ⟨a1, a2, a3, a4, a5, a6, a7, a8, a9⟩ := hA'
  obtain ⟨hp, hx, hv, ⟨hn, hF, hff⟩, him, hbp, hih⟩ := id hV
  have hI := hR.1
  have la := hI.1
  have he := pl_ef hF a1
  have bad := (hff f a1).1 a hI
  have rs := rr_s (hff f a1).2.2 (hff f a1).2.1 hR
  have hxc : xim (p * 120 + a) = nI 11 := by rw [him a (by omega), hc]
  have hqs' : ∀ y, y ≠ x → upd xbq x (nI (q - pl_C (re_b M p) f a)) y = q0 y := fun y hy => by rw [pk_un hy]; exact hqs y hy
  have tk : pl_tk (re_b M p) a = 1 := by simp [pl_tk, hc]
  have gv : pl_gv (re_b M p a) = 0 := by rw [hc]; rfl
  rw [tk, gv] at rs
  have esz : pl_sz (re_b M p a) = 2 := by rw [hc]; rfl
  rw [esz] at rs hphi
  have hw : a + 1 < pl_e (re_b M p) f := pl_wide bad esz
  have hxo : xim (p * 120 + (a + 1)) = nI (re_b M p (a + 1)) := him _ (by omega)
  have hol : re_b M p (a + 1) < pl_li (re_b M p) f (re_b M p a) := pl_ol bad esz
  obtain ⟨nx1, nx2⟩ := rs.2.2.2 (by omega) (by omega)
  obtain ⟨g, rfl⟩ : ∃ g, hh = g + 1 := ⟨hh - 1, by have := rs.1; omega⟩
  obtain ⟨j, ej, lj, rj⟩ := rs.2.2.1 (by omega)
  have hL : pl_L (re_b M p) f j := Or.inr ⟨a, hI, Or.inl ⟨by omega, ej⟩⟩
  have ev : xsk (t * 6 + g) = yen (t * 7 + g) := a8 g (by omega)
  by_cases z : xsk (t * 6 + g) = 0
  · refine rn_next hV ht hA hI hq hq2 (by omega) hcq (fun P K => x_op11 (by omega) hp hx (by omega) hxc hxo a5 (by omega) (y_hvb hv p _) ej (by omega) (fun _ => K) fun z' => absurd z z') (fun P K => ?_) (ih (t) (f) (j) (g) (q - pl_C (re_b M p) f a) (st + 1) (xhm) (upd xbq x (nI (q - pl_C (re_b M p) f a))) (xsc) (upd (upd xna t (nI (p * 120 + (a + 2)))) t (nI (p * 120 + j))) (upd xhe t (nI g)) (xlo) (xsk) (yfn) (upd yat t (nI (p * 120 + j))) (upd yhi t (nI g)) (ylo) (yen) ht (by omega) (lv_c hW (fun l hl => ⟨by first | rfl | (rw [pk_un (by omega)]; done) | (rw [pk_un (by omega), pk_un (by omega)]; done) | (rw [pk_un (by omega), pk_un (by omega), pk_un (by omega)]; done), by first | rfl | (rw [pk_un (by omega)]; done) | (rw [pk_un (by omega), pk_un (by omega)]; done) | (rw [pk_un (by omega), pk_un (by omega), pk_un (by omega)]; done), by first | rfl | (rw [pk_un (by omega)]; done) | (rw [pk_un (by omega), pk_un (by omega)]; done) | (rw [pk_un (by omega), pk_un (by omega), pk_un (by omega)]; done), by first | rfl | (rw [pk_un (by omega)]; done) | (rw [pk_un (by omega), pk_un (by omega)]; done) | (rw [pk_un (by omega), pk_un (by omega), pk_un (by omega)]; done), by first | rfl | (rw [pk_un (by omega)]; done) | (rw [pk_un (by omega), pk_un (by omega)]; done) | (rw [pk_un (by omega), pk_un (by omega), pk_un (by omega)]; done), fun j hj => by first | rfl | (rw [pk_un (by omega)]; done) | (rw [pk_un (by omega), pk_un (by omega)]; done) | (rw [pk_un (by omega), pk_un (by omega), pk_un (by omega)]; done), fun j hj => by first | rfl | (rw [pk_un (by omega)]; done) | (rw [pk_un (by omega), pk_un (by omega)]; done) | (rw [pk_un (by omega), pk_un (by omega), pk_un (by omega)]; done), fun i hi => by first | rfl | (rw [pk_un (by omega)]; done) | (rw [pk_un (by omega), pk_un (by omega)]; done) | (rw [pk_un (by omega), pk_un (by omega), pk_un (by omega)]; done), fun i hi => by first | rfl | (rw [pk_un (by omega)]; done) | (rw [pk_un (by omega), pk_un (by omega)]; done) | (rw [pk_un (by omega), pk_un (by omega), pk_un (by omega)]; done)⟩)) ⟨a1, a2, pk_us, pk_us, pk_us, pk_us, by omega, fun j hj => a8 j (by omega), a9⟩ (by rw [show g = g + 1 - 1 + 0 by omega]; exact rj) hqs' pk_us (by omega) (by rw [pl_T_L hL]; omega))
    rw [hc]
    exact y_op11 (by omega) (by omega) hx (by omega) hn hF a1 la bad hc rfl a6 a7 hv ej (by omega) (fun _ => K) fun z' => absurd (ev ▸ z) z'
  · refine rn_next hV ht hA hI hq hq2 (by omega) hcq (fun P K => x_op11 (by omega) hp hx (by omega) hxc hxo a5 (by omega) (y_hvb hv p _) ej (by omega) (fun z' => absurd z' z) fun _ => K) (fun P K => ?_) (ih (t) (f) (a + 2) (g) (q - pl_C (re_b M p) f a) (st + 1) (xhm) (upd xbq x (nI (q - pl_C (re_b M p) f a))) (xsc) (upd xna t (nI (p * 120 + (a + 2)))) (upd xhe t (nI g)) (xlo) (xsk) (yfn) (upd yat t (nI (p * 120 + (a + 2)))) (upd yhi t (nI g)) (ylo) (yen) ht (by omega) (lv_c hW (fun l hl => ⟨by first | rfl | (rw [pk_un (by omega)]; done) | (rw [pk_un (by omega), pk_un (by omega)]; done) | (rw [pk_un (by omega), pk_un (by omega), pk_un (by omega)]; done), by first | rfl | (rw [pk_un (by omega)]; done) | (rw [pk_un (by omega), pk_un (by omega)]; done) | (rw [pk_un (by omega), pk_un (by omega), pk_un (by omega)]; done), by first | rfl | (rw [pk_un (by omega)]; done) | (rw [pk_un (by omega), pk_un (by omega)]; done) | (rw [pk_un (by omega), pk_un (by omega), pk_un (by omega)]; done), by first | rfl | (rw [pk_un (by omega)]; done) | (rw [pk_un (by omega), pk_un (by omega)]; done) | (rw [pk_un (by omega), pk_un (by omega), pk_un (by omega)]; done), by first | rfl | (rw [pk_un (by omega)]; done) | (rw [pk_un (by omega), pk_un (by omega)]; done) | (rw [pk_un (by omega), pk_un (by omega), pk_un (by omega)]; done), fun j hj => by first | rfl | (rw [pk_un (by omega)]; done) | (rw [pk_un (by omega), pk_un (by omega)]; done) | (rw [pk_un (by omega), pk_un (by omega), pk_un (by omega)]; done), fun j hj => by first | rfl | (rw [pk_un (by omega)]; done) | (rw [pk_un (by omega), pk_un (by omega)]; done) | (rw [pk_un (by omega), pk_un (by omega), pk_un (by omega)]; done), fun i hi => by first | rfl | (rw [pk_un (by omega)]; done) | (rw [pk_un (by omega), pk_un (by omega)]; done) | (rw [pk_un (by omega), pk_un (by omega), pk_un (by omega)]; done), fun i hi => by first | rfl | (rw [pk_un (by omega)]; done) | (rw [pk_un (by omega), pk_un (by omega)]; done) | (rw [pk_un (by omega), pk_un (by omega), pk_un (by omega)]; done)⟩)) ⟨a1, a2, pk_us, pk_us, pk_us, pk_us, by omega, fun j hj => a8 j (by omega), a9⟩ (by rw [show g = g + 1 - 1 + 0 by omega]; exact nx2) hqs' pk_us (by omega) hphi)
    rw [hc]
    exact y_op11 (by omega) (by omega) hx (by omega) hn hF a1 la bad hc rfl a6 a7 hv ej (by omega) (fun z' => absurd (ev.trans z') z) fun _ => K
theorem rn_o13 {t f a hh q st m p x : Nat} {q0 : Nat → Int32} (hV : rn_V M p x n xim xic xih xbp) (ih : rn_H x p q0 M m xrc xbc xfc xrn xra xfi xfp xgn xac xlr xhm xrp xrA xrB xrC xby xhd xst xbg xco xen xre xld xim xic xih xif xop xbp xbq xsc xna xhe xlo xsk yru ypl ynu yps yfi yac yre yme yrp yrq yrl yby yle ypr ywa ybp ybq ybo ysc yfn yat yhi ylo yen) (ht : t < 6) (hst : st + (m + 1) ≤ 2000) (hW : lv_W (re_b M p) p t xna xhe xlo xsk yfn yat yhi ylo yen) (hA : lv_A (re_b M p) p t f a hh xna xhe xlo xsk yfn yat yhi ylo yen) (hR : rr_R (re_b M p) f a hh)
    (hqs : ∀ y, y ≠ x → xbq y = q0 y) (hq : xbq x = nI q) (hq2 : q ≤ 2000) (hcq : pl_C (re_b M p) f a ≤ q) (hphi : q - pl_C (re_b M p) f a + pl_T (re_b M p) f (a + pl_sz (re_b M p a)) ≤ m) (hc : re_b M p a = 13) :
    rn_E x p q0 (m + 1) st xrc xbc xfc xrn xra xfi xfp xgn (nI (t + 1)) 0 xhm xrp xrA xrB xrC xby xhd xst xbg xco xen xre xld xim xic xih xif xop xbp xbq xsc xna xhe xlo xsk yru ypl ynu yps yfi (nI (t + 1)) 0 xhm yrp yrq yrl (fun i => nI (M i)) yle ypr ywa ybp xbq ybo xsc yfn yat yhi ylo yen := by
  have hA' := hA
  obtain ⟨a1, a2, a3, a4, a5, a6, a7, a8, a9⟩ := hA'
  obtain ⟨hp, hx, hv, ⟨hn, hF, hff⟩, him, hbp, hih⟩ := id hV
  have hI := hR.1
  have la := hI.1
  have he := pl_ef hF a1
  have bad := (hff f a1).1 a hI
  have rs := rr_s (hff f a1).2.2 (hff f a1).2.1 hR
  have hxc : xim (p * 120 + a) = nI 13 := by rw [him a (by omega), hc]
  have hqs' : ∀ y, y ≠ x → upd xbq x (nI (q - pl_C (re_b M p) f a)) y = q0 y := fun y hy => by rw [pk_un hy]; exact hqs y hy
  have tk : pl_tk (re_b M p) a = 1 := by simp [pl_tk, hc]
  have gv : pl_gv (re_b M p a) = 1 := by rw [hc]; rfl
  rw [tk, gv] at rs
  have esz : pl_sz (re_b M p a) = 2 := by rw [hc]; rfl
  rw [esz] at rs hphi
  have hw : a + 1 < pl_e (re_b M p) f := pl_wide bad esz
  have hxo : xim (p * 120 + (a + 1)) = nI (re_b M p (a + 1)) := him _ (by omega)
  have hol : re_b M p (a + 1) < pl_li (re_b M p) f (re_b M p a) := pl_ol bad esz
  obtain ⟨nx1, nx2⟩ := rs.2.2.2 (by omega) (by omega)
  obtain ⟨g, rfl⟩ : ∃ g, hh = g + 1 := ⟨hh - 1, by have := rs.1; omega⟩
  have ho4 : re_b M p (a + 1) < re_b M p 1 := by
    have h2 : pl_li (re_b M p) f (re_b M p a) = re_b M p 1 := by rw [hc]; rfl
    omega
  have hi4 := hF.1
  have ev : xsk (t * 6 + g) = yen (t * 7 + g) := a8 g (by omega)
  refine rn_next hV ht hA hI hq hq2 (by omega) hcq (fun P K => x_op13 (by omega) hp hx (by omega) hxc hxo a5 (by omega) (by omega) hbp (him _ (by omega)) (him _ (by omega)) (him _ (by omega)) fun hm e => by subst e; exact K) (fun P K => ?_) (ih (t) (f) (a + 2) (g + 1) (q - pl_C (re_b M p) f a) (st + 1) (ho_m xhm (xsk (t * 6 + g)) (nI (re_b M p (2 + 3 * re_b M p (a + 1)))) (nI (re_b M p (2 + 3 * re_b M p (a + 1) + 1))) (nI (re_b M p (2 + 3 * re_b M p (a + 1) + 2)))) (upd xbq x (nI (q - pl_C (re_b M p) f a))) (xsc) (upd xna t (nI (p * 120 + (a + 2)))) (upd (upd xhe t (nI g)) t (nI (g + 1))) (xlo) (upd xsk (t * 6 + g) (ho_a (ho_m xhm (xsk (t * 6 + g)) (nI (re_b M p (2 + 3 * re_b M p (a + 1)))) (nI (re_b M p (2 + 3 * re_b M p (a + 1) + 1))) (nI (re_b M p (2 + 3 * re_b M p (a + 1) + 2)))))) (yfn) (upd yat t (nI (p * 120 + (a + 2)))) (upd (upd yhi t (nI g)) t (nI (g + 1))) (ylo) (upd yen (t * 7 + g) (ho_a (ho_m xhm (xsk (t * 6 + g)) (nI (re_b M p (2 + 3 * re_b M p (a + 1)))) (nI (re_b M p (2 + 3 * re_b M p (a + 1) + 1))) (nI (re_b M p (2 + 3 * re_b M p (a + 1) + 2)))))) ht (by omega) (lv_c hW (fun l hl => ⟨by first | rfl | (rw [pk_un (by omega)]; done) | (rw [pk_un (by omega), pk_un (by omega)]; done) | (rw [pk_un (by omega), pk_un (by omega), pk_un (by omega)]; done), by first | rfl | (rw [pk_un (by omega)]; done) | (rw [pk_un (by omega), pk_un (by omega)]; done) | (rw [pk_un (by omega), pk_un (by omega), pk_un (by omega)]; done), by first | rfl | (rw [pk_un (by omega)]; done) | (rw [pk_un (by omega), pk_un (by omega)]; done) | (rw [pk_un (by omega), pk_un (by omega), pk_un (by omega)]; done), by first | rfl | (rw [pk_un (by omega)]; done) | (rw [pk_un (by omega), pk_un (by omega)]; done) | (rw [pk_un (by omega), pk_un (by omega), pk_un (by omega)]; done), by first | rfl | (rw [pk_un (by omega)]; done) | (rw [pk_un (by omega), pk_un (by omega)]; done) | (rw [pk_un (by omega), pk_un (by omega), pk_un (by omega)]; done), fun j hj => by first | rfl | (rw [pk_un (by omega)]; done) | (rw [pk_un (by omega), pk_un (by omega)]; done) | (rw [pk_un (by omega), pk_un (by omega), pk_un (by omega)]; done), fun j hj => by first | rfl | (rw [pk_un (by omega)]; done) | (rw [pk_un (by omega), pk_un (by omega)]; done) | (rw [pk_un (by omega), pk_un (by omega), pk_un (by omega)]; done), fun i hi => by first | rfl | (rw [pk_un (by omega)]; done) | (rw [pk_un (by omega), pk_un (by omega)]; done) | (rw [pk_un (by omega), pk_un (by omega), pk_un (by omega)]; done), fun i hi => by first | rfl | (rw [pk_un (by omega)]; done) | (rw [pk_un (by omega), pk_un (by omega)]; done) | (rw [pk_un (by omega), pk_un (by omega), pk_un (by omega)]; done)⟩)) ⟨a1, a2, pk_us, pk_us, pk_us, pk_us, by omega, st_A a8 (by omega) rfl, a9⟩ (by rw [show g + 1 = g + 1 - 1 + 1 by omega]; exact nx2) hqs' pk_us (by omega) hphi)
  rw [hc]
  rw [ev] at K
  exact y_op13 (by omega) (by omega) hx (by omega) hn hF a1 la bad hc rfl a6 a7 (by omega) rfl rfl rfl fun hm e => by subst e; exact K
theorem rn_o16 {t f a hh q st m p x : Nat} {q0 : Nat → Int32} (hV : rn_V M p x n xim xic xih xbp) (ih : rn_H x p q0 M m xrc xbc xfc xrn xra xfi xfp xgn xac xlr xhm xrp xrA xrB xrC xby xhd xst xbg xco xen xre xld xim xic xih xif xop xbp xbq xsc xna xhe xlo xsk yru ypl ynu yps yfi yac yre yme yrp yrq yrl yby yle ypr ywa ybp ybq ybo ysc yfn yat yhi ylo yen) (ht : t < 6) (hst : st + (m + 1) ≤ 2000) (hW : lv_W (re_b M p) p t xna xhe xlo xsk yfn yat yhi ylo yen) (hA : lv_A (re_b M p) p t f a hh xna xhe xlo xsk yfn yat yhi ylo yen) (hR : rr_R (re_b M p) f a hh)
    (hqs : ∀ y, y ≠ x → xbq y = q0 y) (hq : xbq x = nI q) (hq2 : q ≤ 2000) (hcq : pl_C (re_b M p) f a ≤ q) (hphi : q - pl_C (re_b M p) f a + pl_T (re_b M p) f (a + pl_sz (re_b M p a)) ≤ m) (hc : re_b M p a = 16) :
    rn_E x p q0 (m + 1) st xrc xbc xfc xrn xra xfi xfp xgn (nI (t + 1)) 0 xhm xrp xrA xrB xrC xby xhd xst xbg xco xen xre xld xim xic xih xif xop xbp xbq xsc xna xhe xlo xsk yru ypl ynu yps yfi (nI (t + 1)) 0 xhm yrp yrq yrl (fun i => nI (M i)) yle ypr ywa ybp xbq ybo xsc yfn yat yhi ylo yen := by
  have hA' := hA
  obtain ⟨a1, a2, a3, a4, a5, a6, a7, a8, a9⟩ := hA'
  obtain ⟨hp, hx, hv, ⟨hn, hF, hff⟩, him, hbp, hih⟩ := id hV
  have hI := hR.1
  have la := hI.1
  have he := pl_ef hF a1
  have bad := (hff f a1).1 a hI
  have rs := rr_s (hff f a1).2.2 (hff f a1).2.1 hR
  have hxc : xim (p * 120 + a) = nI 16 := by rw [him a (by omega), hc]
  have hqs' : ∀ y, y ≠ x → upd xbq x (nI (q - pl_C (re_b M p) f a)) y = q0 y := fun y hy => by rw [pk_un hy]; exact hqs y hy
  have tk : pl_tk (re_b M p) a = 1 := by simp [pl_tk, hc]
  have gv : pl_gv (re_b M p a) = 0 := by rw [hc]; rfl
  rw [tk, gv] at rs
  have esz : pl_sz (re_b M p a) = 1 := by rw [hc]; rfl
  rw [esz] at rs hphi
  obtain ⟨g, rfl⟩ : ∃ g, hh = g + 1 := ⟨hh - 1, by have := rs.1; omega⟩
  have ev : xsk (t * 6 + g) = yen (t * 7 + g) := a8 g (by omega)
  have hgx : ∀ s, t = s + 1 → ∃ g', xhe s = nI g' ∧ g' < 6 := fun s e => by
    obtain ⟨f', a', h', b1, b2, _⟩ := hW s (by omega)
    exact ⟨h', b1.2.2.2.2.1, b2⟩
  have hgy : ∀ s, t = s + 1 → ∃ g', yhi s = nI g' ∧ g' < 6 := fun s e => by
    obtain ⟨f', a', h', b1, b2, _⟩ := hW s (by omega)
    exact ⟨h', b1.2.2.2.2.2.1, b2⟩
  by_cases t0 : t = 0
  · refine rn_fin (w := 0) (xlr1 := xsk (t * 6 + g)) (yac1 := 0) (fn1 := yfn) (at1 := yat) (hi1 := yhi) (yl1 := ylo) (en1 := yen) hV ht hA hI hq hq2 (by omega) hcq (by decide) (by decide) hqs (fun P K => x_op16 (o := 0) (by omega) hp hx (by omega) hxc a5 (by omega) (fun _ => K) (fun s _ e => absurd e (by omega)) hgx) (fun P K => ?_)
    rw [hc]
    rw [ev] at K
    exact y_op16 (o := 0) (by omega) (by omega) hx (by omega) hn hF a1 la bad hc a6 a7 (fun _ => K) (fun s _ e => absurd e (by omega)) hgy
  obtain ⟨s, rfl⟩ : ∃ s, t = s + 1 := ⟨t - 1, by omega⟩
  obtain ⟨f', a', h', ⟨b1, b2, b3, b4, b5, b6, b7, b8, b9⟩, c1, c2, c3⟩ := hW s (by omega)
  refine rn_next hV ht hA hI hq hq2 (by omega) hcq (fun P K => x_op16 (o := 0) (by omega) hp hx (by omega) hxc a5 (by omega) (fun e => absurd e (by omega)) (fun s' g' e1 e2 e3 => ?_) hgx) (fun P K => ?_) (ih (s) (f') (a') (h' + 1) (q - pl_C (re_b M p) f a) (st + 1) (xhm) (upd xbq x (nI (q - pl_C (re_b M p) f a))) (xsc) (upd xna (s + 1) (nI (p * 120 + (a + 1)))) (upd (upd xhe (s + 1) (nI g)) s (nI (h' + 1))) (xlo) (upd xsk (s * 6 + h') (xsk ((s + 1) * 6 + g))) (yfn) (yat) (upd yhi s (nI (h' + 1))) (ylo) (upd yen (s * 7 + h') (yen ((s + 1) * 7 + g))) (by omega) (by omega) (lv_c (fun l hl => hW l (by omega)) (fun l hl => ⟨by first | rfl | (rw [pk_un (by omega)]; done) | (rw [pk_un (by omega), pk_un (by omega)]; done) | (rw [pk_un (by omega), pk_un (by omega), pk_un (by omega)]; done), by first | rfl | (rw [pk_un (by omega)]; done) | (rw [pk_un (by omega), pk_un (by omega)]; done) | (rw [pk_un (by omega), pk_un (by omega), pk_un (by omega)]; done), by first | rfl | (rw [pk_un (by omega)]; done) | (rw [pk_un (by omega), pk_un (by omega)]; done) | (rw [pk_un (by omega), pk_un (by omega), pk_un (by omega)]; done), by first | rfl | (rw [pk_un (by omega)]; done) | (rw [pk_un (by omega), pk_un (by omega)]; done) | (rw [pk_un (by omega), pk_un (by omega), pk_un (by omega)]; done), by first | rfl | (rw [pk_un (by omega)]; done) | (rw [pk_un (by omega), pk_un (by omega)]; done) | (rw [pk_un (by omega), pk_un (by omega), pk_un (by omega)]; done), fun j hj => by first | rfl | (rw [pk_un (by omega)]; done) | (rw [pk_un (by omega), pk_un (by omega)]; done) | (rw [pk_un (by omega), pk_un (by omega), pk_un (by omega)]; done), fun j hj => by first | rfl | (rw [pk_un (by omega)]; done) | (rw [pk_un (by omega), pk_un (by omega)]; done) | (rw [pk_un (by omega), pk_un (by omega), pk_un (by omega)]; done), fun i hi => by first | rfl | (rw [pk_un (by omega)]; done) | (rw [pk_un (by omega), pk_un (by omega)]; done) | (rw [pk_un (by omega), pk_un (by omega), pk_un (by omega)]; done), fun i hi => by first | rfl | (rw [pk_un (by omega)]; done) | (rw [pk_un (by omega), pk_un (by omega)]; done) | (rw [pk_un (by omega), pk_un (by omega), pk_un (by omega)]; done)⟩)) ⟨b1, b2, by rw [pk_un (by omega)]; exact b3, b4, pk_us, pk_us, by omega, st_A b8 (Nat.le_refl _) ev, b9⟩ c2 hqs' pk_us (by omega) (by rw [pl_T_L c3]; omega))
  · have : s' = s := by omega
    subst this
    have : g' = h' := by rw [b5] at e2; exact ((nI_eq (by omega) (by omega)).mp e2).symm
    subst this
    exact K
  · rw [hc]
    refine y_op16 (o := 0) (by omega) (by omega) hx (by omega) hn hF a1 la bad hc a6 a7 (fun e => absurd e (by omega)) (fun s' g' e1 e2 e3 => ?_) hgy
    have : s' = s := by omega
    subst this
    have : g' = h' := by rw [b6] at e2; exact ((nI_eq (by omega) (by omega)).mp e2).symm
    subst this
    exact K
theorem rn_o12 {t f a hh q st m p x : Nat} {q0 : Nat → Int32} (hV : rn_V M p x n xim xic xih xbp) (ih : rn_H x p q0 M m xrc xbc xfc xrn xra xfi xfp xgn xac xlr xhm xrp xrA xrB xrC xby xhd xst xbg xco xen xre xld xim xic xih xif xop xbp xbq xsc xna xhe xlo xsk yru ypl ynu yps yfi yac yre yme yrp yrq yrl yby yle ypr ywa ybp ybq ybo ysc yfn yat yhi ylo yen) (ht : t < 6) (hst : st + (m + 1) ≤ 2000) (hW : lv_W (re_b M p) p t xna xhe xlo xsk yfn yat yhi ylo yen) (hA : lv_A (re_b M p) p t f a hh xna xhe xlo xsk yfn yat yhi ylo yen) (hR : rr_R (re_b M p) f a hh)
    (hqs : ∀ y, y ≠ x → xbq y = q0 y) (hq : xbq x = nI q) (hq2 : q ≤ 2000) (hcq : pl_C (re_b M p) f a ≤ q) (hphi : q - pl_C (re_b M p) f a + pl_T (re_b M p) f (a + pl_sz (re_b M p a)) ≤ m) (hc : re_b M p a = 12) :
    rn_E x p q0 (m + 1) st xrc xbc xfc xrn xra xfi xfp xgn (nI (t + 1)) 0 xhm xrp xrA xrB xrC xby xhd xst xbg xco xen xre xld xim xic xih xif xop xbp xbq xsc xna xhe xlo xsk yru ypl ynu yps yfi (nI (t + 1)) 0 xhm yrp yrq yrl (fun i => nI (M i)) yle ypr ywa ybp xbq ybo xsc yfn yat yhi ylo yen := by
  have hA' := hA
  obtain ⟨a1, a2, a3, a4, a5, a6, a7, a8, a9⟩ := hA'
  obtain ⟨hp, hx, hv, ⟨hn, hF, hff⟩, him, hbp, hih⟩ := id hV
  have hI := hR.1
  have la := hI.1
  have he := pl_ef hF a1
  have bad := (hff f a1).1 a hI
  have rs := rr_s (hff f a1).2.2 (hff f a1).2.1 hR
  have hxc : xim (p * 120 + a) = nI 12 := by rw [him a (by omega), hc]
  have hqs' : ∀ y, y ≠ x → upd xbq x (nI (q - pl_C (re_b M p) f a)) y = q0 y := fun y hy => by rw [pk_un hy]; exact hqs y hy
  have esz : pl_sz (re_b M p a) = 2 := by rw [hc]; rfl
  rw [esz] at rs hphi
  have hw : a + 1 < pl_e (re_b M p) f := pl_wide bad esz
  have hxo : xim (p * 120 + (a + 1)) = nI (re_b M p (a + 1)) := him _ (by omega)
  have hol : re_b M p (a + 1) < pl_li (re_b M p) f (re_b M p a) := pl_ol bad esz
  obtain ⟨nx1, nx2⟩ := rs.2.2.2 (by omega) (by omega)
  have hof : re_b M p (a + 1) < pl_nf (re_b M p) := pl_call bad hc
  have h4 := hF.2.2.2.1
  have tk : pl_tk (re_b M p) a = re_b M p (pl_hd (re_b M p) (re_b M p (a + 1))) := by simp [pl_tk, hc]
  have gv : pl_gv (re_b M p a) = 1 := by rw [hc]; rfl
  rw [tk, gv] at rs nx2
  have hof1 := pl_hf hF hof
  have hof2 := pl_ef hF hof
  have np2 : re_b M p (pl_hd (re_b M p) (re_b M p (a + 1))) ≤ 2 := (hF.2.2.2.2.1 _ hof).1
  have xnp : xim (p * 120 + pl_hd (re_b M p) (re_b M p (a + 1))) = nI (re_b M p (pl_hd (re_b M p) (re_b M p (a + 1)))) := him _ (by omega)
  have r1 := rs.1
  have r2 := rs.2.1
  generalize eo : re_b M p (a + 1) = o at *
  generalize enp : re_b M p (pl_hd (re_b M p) o) = np at *
  obtain ⟨g, rfl⟩ : ∃ g, hh = g + np := ⟨hh - np, by omega⟩
  have hL : pl_L (re_b M p) f (a + 2) := Or.inr ⟨a, hI, Or.inr (Or.inl ⟨by omega, by omega, rfl⟩)⟩
  have hLs : pl_L (re_b M p) o (pl_s (re_b M p) o) := Or.inl rfl
  by_cases t5 : t = 5
  · refine rn_fin (w := 3) (xlr1 := 0) (yac1 := nI (t + 1)) (fn1 := yfn) (at1 := yat) (hi1 := yhi) (yl1 := ylo) (en1 := yen) hV ht hA hI hq hq2 (by omega) hcq (by decide) (by decide) hqs (fun P K => x_12pre (by omega) hp hx (by omega) hxc hxo (by omega) hbp (hih o hof).1 (by omega) xnp (fun _ => K) fun z => absurd t5 (by omega)) (fun P K => ?_)
    rw [hc]
    exact y_op12 (f := f) (g := g) (by omega) (by omega) (by omega) hn hF eo hof enp np2 a4 a6 a7 (fun _ => K) fun z => absurd t5 (by omega)
  obtain ⟨he', lo', k1, k2, k3, k4⟩ := x_op12 (xrc := xrc) (xbc := xbc) (xfc := xfc) (xrn := xrn) (xra := xra) (xfi := xfi) (xfp := xfp) (xgn := xgn) (xlr := 0) (xhm := xhm) (xrp := xrp) (xrA := xrA) (xrB := xrB) (xrC := xrC) (xby := xby) (xhd := xhd) (xst := xst) (xbg := xbg) (xco := xco) (xen := xen) (xre := xre) (xld := xld) (xic := xic) (xif := xif) (xop := xop) (xbq := upd xbq x (nI (q - pl_C (re_b M p) f a))) (xsc := xsc) (xna := xna) (xlo := xlo) (xsk := xsk) (g := g) (show t < 5 by omega) hp hx (show a + 1 < 120 by omega) hxc hxo (show o < 4 by omega) hbp (hih o hof).1 (show pl_hd (re_b M p) o < 120 by omega) xnp np2 a5 a7
  have k5 := ca_cp (t := t) (v := fun i => yen (t * 7 + (g + i))) (lo := ylo) (show np ≤ 5 by omega)
  refine rn_next hV ht hA hI hq hq2 (by omega) hcq (fun P K => k4 P K) (fun P K => ?_) (ih (t + 1) (o) (pl_s (re_b M p) o) (0) (q - pl_C (re_b M p) f a) (st + 1) (xhm) (upd xbq x (nI (q - pl_C (re_b M p) f a))) (xsc) (upd (upd xna t (nI (p * 120 + (a + 2)))) (t + 1) (nI (p * 120 + pl_hd (re_b M p) o + 3))) (upd he' (t + 1) 0) (lo') (xsk) (upd yfn (t + 1) (nI o)) (upd (upd yat t (nI (p * 120 + (a + 2)))) (t + 1) (nI (p * 120 + pl_s (re_b M p) o))) (upd (upd yhi t (nI g)) (t + 1) 0) (cp_f (zz_f ylo ((t + 1) * 5) 5) ((t + 1) * 5) (fun i => yen (t * 7 + (g + i))) np) (yen) (by omega) (by omega) (fun l hl => ?_) ⟨hof, pk_us, by rw [pk_us]; exact congrArg nI (by unfold pl_s; omega), pk_us, pk_us, pk_us, by omega, fun j hj => absurd hj (by omega), fun i hi => ?_⟩ (rr_0 hF hof) hqs' pk_us (by omega) (by rw [pl_T_L hLs]; omega))
  · rw [hc]
    exact y_op12 (f := f) (g := g) (by omega) (by omega) (by omega) hn hF eo hof enp np2 a4 a6 a7 (fun z => absurd z t5) fun _ => K
  · by_cases el : l = t
    · subst el
      refine ⟨f, a + 2, g, ⟨a1, by rw [pk_un (by omega)]; exact a2, by rw [pk_un (by omega), pk_us], by rw [pk_un (by omega), pk_us], by rw [pk_un (by omega)]; exact k1, by rw [pk_un (by omega), pk_us], by omega, fun j hj => a8 j (by omega), fun i hi => ?_⟩, by omega, ?_, hL⟩
      · rw [k3.1 l (Nat.le_refl _) i hi, k5.1 l (Nat.le_refl _) i hi]; exact a9 i hi
      · rw [show g + 1 = g + np - np + 1 by omega]; exact nx2
    · obtain ⟨f', a', h', ⟨b1, b2, b3, b4, b5, b6, b7, b8, b9⟩, c1, c2, c3⟩ := hW l (by omega)
      refine ⟨f', a', h', ⟨b1, by rw [pk_un (by omega)]; exact b2, by rw [pk_un (by omega), pk_un (by omega)]; exact b3, by rw [pk_un (by omega), pk_un (by omega)]; exact b4, by rw [pk_un (by omega), k2 l (by omega)]; exact b5, by rw [pk_un (by omega), pk_un (by omega)]; exact b6, b7, b8, fun i hi => ?_⟩, c1, c2, c3⟩
      rw [k3.1 l (by omega) i hi, k5.1 l (by omega) i hi]; exact b9 i hi
  · by_cases ei : i < np
    · rw [k3.2.1 i ei, k5.2.1 i ei]
      exact a8 (g + i) (by omega)
    · rw [k3.2.2 i (by omega) hi, k5.2.2 i (by omega) hi]
end D8
end
section
section D9
variable {r n : Nat} {pt M b : Nat → Nat} {xrc xbc xfc xrn xra xfi xfp xgn xac xlr : Int32} {xhm : Int64} {xrp xrA xrB xrC xby xhd xst xbg xco xen xre xld xim xic xih xif xop xbp xbq xsc xna xhe xlo xsk : Nat → Int32} {yru ypl ynu yps yfi yac yre : Int32} {yme : Int64} {yrp yrq yrl yby yle ypr ywa ybp ybq ybo ysc yfn yat yhi ylo yen : Nat → Int32}
theorem rn_ph {b : Nat → Nat} {f a q m : Nat} (hI : pl_IS b f a) (h : q + pl_T b f a ≤ m) (hc : pl_C b f a ≤ q) : q - pl_C b f a + pl_T b f (a + pl_sz (b a)) + 1 ≤ m := by
  have w := pl_wt_pos (b a)
  by_cases hL : pl_L b f a
  · rw [pl_C_L hL] at hc ⊢
    omega
  · rw [pl_C_n hL] at hc ⊢
    rw [pl_T_n hI.1 hL] at h
    omega
theorem rn_main {p x : Nat} {q0 : Nat → Int32} (hV : rn_V M p x n xim xic xih xbp) : ∀ m, rn_H x p q0 M m xrc xbc xfc xrn xra xfi xfp xgn xac xlr xhm xrp xrA xrB xrC xby xhd xst xbg xco xen xre xld xim xic xih xif xop xbp xbq xsc xna xhe xlo xsk yru ypl ynu yps yfi yac yre yme yrp yrq yrl yby yle ypr ywa ybp ybq ybo ysc yfn yat yhi ylo yen := by
  intro m
  induction m with
  | zero =>
    intro t f a hh q st xhm xbq xsc xna xhe xlo xsk yfn yat yhi ylo yen ht hst hW hA hR hqs hq hq2 hphi
    by_cases hc : q < pl_C (re_b M p) f a
    · exact rn_qu hV ht hA hR.1 hq hq2 (by omega) hc hqs
    · have := rn_ph hR.1 hphi (by omega)
      omega
  | succ m ih =>
    intro t f a hh q st xhm xbq xsc xna xhe xlo xsk yfn yat yhi ylo yen ht hst hW hA hR hqs hq hq2 hphi
    by_cases hc : q < pl_C (re_b M p) f a
    · exact rn_qu hV ht hA hR.1 hq hq2 (by omega) hc hqs
    · have hcq : pl_C (re_b M p) f a ≤ q := by omega
      have hph : q - pl_C (re_b M p) f a + pl_T (re_b M p) f (a + pl_sz (re_b M p a)) ≤ m := by
        have := rn_ph hR.1 hphi hcq
        omega
      have bad := (hV.2.2.2.1.2.2 f hA.1).1 a hR.1
      have c16 : re_b M p a ≤ 16 := by unfold pl_bad at bad; omega
      rcases c17 c16 with e | e | e | e | e | e | e | e | e | e | e | e | e | e | e | e | e
      · exact rn_o0 (xac := xac) (xlr := xlr) (yac := yac) (yre := yre) (yme := yme) (yby := yby) (ybq := ybq) (ysc := ysc) hV ih ht hst hW hA hR hqs hq hq2 hcq hph e
      · exact rn_o1 (xac := xac) (xlr := xlr) (yac := yac) (yre := yre) (yme := yme) (yby := yby) (ybq := ybq) (ysc := ysc) hV ih ht hst hW hA hR hqs hq hq2 hcq hph e
      · exact rn_o2 (xac := xac) (xlr := xlr) (yac := yac) (yre := yre) (yme := yme) (yby := yby) (ybq := ybq) (ysc := ysc) hV ih ht hst hW hA hR hqs hq hq2 hcq hph e
      · exact rn_o3 (xac := xac) (xlr := xlr) (yac := yac) (yre := yre) (yme := yme) (yby := yby) (ybq := ybq) (ysc := ysc) hV ih ht hst hW hA hR hqs hq hq2 hcq hph e
      · exact rn_o4 (xac := xac) (xlr := xlr) (yac := yac) (yre := yre) (yme := yme) (yby := yby) (ybq := ybq) (ysc := ysc) hV ih ht hst hW hA hR hqs hq hq2 hcq hph e
      · exact rn_o5 (xac := xac) (xlr := xlr) (yac := yac) (yre := yre) (yme := yme) (yby := yby) (ybq := ybq) (ysc := ysc) hV ih ht hst hW hA hR hqs hq hq2 hcq hph e
      · exact rn_o6 (xac := xac) (xlr := xlr) (yac := yac) (yre := yre) (yme := yme) (yby := yby) (ybq := ybq) (ysc := ysc) hV ih ht hst hW hA hR hqs hq hq2 hcq hph e
      · exact rn_o7 (xac := xac) (xlr := xlr) (yac := yac) (yre := yre) (yme := yme) (yby := yby) (ybq := ybq) (ysc := ysc) hV ih ht hst hW hA hR hqs hq hq2 hcq hph e
      · exact rn_o8 (xac := xac) (xlr := xlr) (yac := yac) (yre := yre) (yme := yme) (yby := yby) (ybq := ybq) (ysc := ysc) hV ih ht hst hW hA hR hqs hq hq2 hcq hph e
      · exact rn_o9 (xac := xac) (xlr := xlr) (yac := yac) (yre := yre) (yme := yme) (yby := yby) (ybq := ybq) (ysc := ysc) hV ih ht hst hW hA hR hqs hq hq2 hcq hph e
      · exact rn_o10 (xac := xac) (xlr := xlr) (yac := yac) (yre := yre) (yme := yme) (yby := yby) (ybq := ybq) (ysc := ysc) hV ih ht hst hW hA hR hqs hq hq2 hcq hph e
      · exact rn_o11 (xac := xac) (xlr := xlr) (yac := yac) (yre := yre) (yme := yme) (yby := yby) (ybq := ybq) (ysc := ysc) hV ih ht hst hW hA hR hqs hq hq2 hcq hph e
      · exact rn_o12 (xac := xac) (xlr := xlr) (yac := yac) (yre := yre) (yme := yme) (yby := yby) (ybq := ybq) (ysc := ysc) hV ih ht hst hW hA hR hqs hq hq2 hcq hph e
      · exact rn_o13 (xac := xac) (xlr := xlr) (yac := yac) (yre := yre) (yme := yme) (yby := yby) (ybq := ybq) (ysc := ysc) hV ih ht hst hW hA hR hqs hq hq2 hcq hph e
      · exact rn_o14 (xac := xac) (xlr := xlr) (yac := yac) (yre := yre) (yme := yme) (yby := yby) (ybq := ybq) (ysc := ysc) hV ih ht hst hW hA hR hqs hq hq2 hcq hph e
      · exact rn_o15 (xac := xac) (xlr := xlr) (yac := yac) (yre := yre) (yme := yme) (yby := yby) (ybq := ybq) (ysc := ysc) hV ih ht hst hW hA hR hqs hq hq2 hcq hph e
      · exact rn_o16 (xac := xac) (xlr := xlr) (yac := yac) (yre := yre) (yme := yme) (yby := yby) (ybq := ybq) (ysc := ysc) hV ih ht hst hW hA hR hqs hq hq2 hcq hph e
def ca_0 (np : Nat) (a b : Int32) (z : Nat → Int32) : Nat → Int32 := if np = 0 then z else if np = 1 then upd z 0 a else upd (upd z 0 a) 1 b
theorem ca_0e {np : Nat} {a b : Int32} {z z' : Nat → Int32} (h : ∀ i, i < 5 → z i = z' i) : ∀ i, i < 5 → ca_0 np a b z i = ca_0 np a b z' i := by
  intro i hi
  unfold ca_0
  split
  · exact h i hi
  · split
    · by_cases e : i = 0
      · subst e; rw [pk_us, pk_us]
      · rw [pk_un e, pk_un e]; exact h i hi
    · by_cases e1 : i = 1
      · subst e1; rw [pk_us, pk_us]
      · rw [pk_un e1, pk_un e1]
        by_cases e : i = 0
        · subst e; rw [pk_us, pk_us]
        · rw [pk_un e, pk_un e]; exact h i hi
theorem x_callE {post : Int32 → SX → Prop} {x p f np d nf : Nat} {v3 v4 : Int32} (hx : x < 4) (hop : ¬ xop x = 0) (hp : p < 3) (hbp : xbp x = nI p) (hxif : xif p = nI nf) (hf : f < nf) (hnf : nf ≤ 4) (hr : r ≤ 12) (hR : ∀ i, i < r → pt i ≤ 3 ∧ (xrp i) >>> ((1 : Int32) &&& 31) = nI (pt i)) (h4 : b 1 ≤ 4) (hb : ∀ i, i < 120 → xim (p * 120 + i) = nI (b i))
    (hih : xih (p * 4 + f) = nI (p * 120 + d)) (hdl : d < 120) (hnp : b d = np) (hn2 : np ≤ 2)
    (k4 : (∃ i, de_F pt xrp xrA xrB xrC r b i) → post 4 (nI r, xbc, xfc, xrn, xra, xfi, xfp, xgn, xac, xlr, xhm, xrp, xrA, xrB, xrC, xby, xhd, xst, xbg, xco, xen, xre, xld, xim, xic, xih, xif, xop, xbp, xbq, xsc, xna, xhe, xlo, xsk))
    (k : (∀ i, i < b 1 → ¬ de_A pt xrp xrA xrB xrC r b i = 0) → wpX_run post (nI r, xbc, xfc, xrn, xra, xfi, xfp, xgn, nI (0 + 1), 0, xhm, xrp, xrA, xrB, xrC, xby, xhd, xst, xbg, xco, xen, xre, xld, xim, xic, xih, xif, xop, xbp, xbq, xsc, upd xna 0 (nI (p * 120 + d + 3)), upd xhe 0 0, ca_0 np v3 v4 (zz_f xlo (0 * 5) 5), xsk) (nI x)) : wpX_call post (nI r, xbc, xfc, xrn, xra, xfi, xfp, xgn, xac, xlr, xhm, xrp, xrA, xrB, xrC, xby, xhd, xst, xbg, xco, xen, xre, xld, xim, xic, xih, xif, xop, xbp, xbq, xsc, xna, xhe, xlo, xsk) (nI x) (nI f) v3 v4 := by
  have Vx : vp_in (nI x) 4 := vp_in_nI hx (by omega)
  have Vd : vp_in (nI (p * 120 + d)) 360 := vp_in_nI (by omega) (by omega)
  have hb' : ∀ i, b i = b i := fun _ => rfl
  unfold wpX_call
  dsimp only
  refine x_isBox (fun j hj e z => br_f ba_10 ?_) fun z => absurd ⟨x, hx, rfl, hop⟩ z
  rw [nI_clamp (show x < 2 ^ 31 by omega), hbp]
  refine ⟨Vx, nm_e (br_f (nI_pos (by omega)) ⟨vp_in_nI hp (by omega), ?_⟩)⟩
  rw [nI_clamp (show p < 2 ^ 31 by omega), hxif]
  refine br_t (nI_lt hf (by omega)) ?_
  rw [show nI p * 120 = nI (p * 120) from pk_mul p 120]
  refine x_denI (b := b) hp hr hR h4 hb (fun i hi => ?_) fun hD => br_t rfl ?_
  · have := hi.1
    exact br_f (ba_m1ne (by omega)) (k4 ⟨i, hi⟩)
  rw [show nI p * 4 + nI f = nI (p * 4 + f) by rw [show nI p * 4 = nI (p * 4) from pk_mul p 4, nI_add], nI_clamp (by omega), hih]
  refine ⟨vp_in_nI (by omega) (by omega), nm_e ?_⟩
  refine x_clear (q := 0) (by omega) ⟨Vd, ?_⟩
  dsimp only
  rw [nI_clamp (show p * 120 + d < 2 ^ 31 by omega), hb d hdl, hnp]
  have K := k hD
  have A : ∀ xlo : Nat → Int32, wpX_run post (nI r, xbc, xfc, xrn, xra, xfi, xfp, xgn, nI (0 + 1), 0, xhm, xrp, xrA, xrB, xrC, xby, xhd, xst, xbg, xco, xen, xre, xld, xim, xic, xih, xif, xop, xbp, xbq, xsc, upd xna 0 (nI (p * 120 + d + 3)), upd xhe 0 0, xlo, xsk) (nI x) → wX_call_117 post (nI x) (nI (p * 120 + d)) (nI r) xbc xfc xrn xra xfi xfp xgn (nI 0) 0 xhm xrp xrA xrB xrC xby xhd xst xbg xco xen xre xld xim xic xih xif xop xbp xbq xsc xna xhe xlo xsk := by
    intro xlo q
    exact x_act (q := 0) (by omega) q
  have B : ∀ xlo : Nat → Int32, (np ≤ 1 → wpX_run post (nI r, xbc, xfc, xrn, xra, xfi, xfp, xgn, nI (0 + 1), 0, xhm, xrp, xrA, xrB, xrC, xby, xhd, xst, xbg, xco, xen, xre, xld, xim, xic, xih, xif, xop, xbp, xbq, xsc, upd xna 0 (nI (p * 120 + d + 3)), upd xhe 0 0, xlo, xsk) (nI x)) → (1 < np → wpX_run post (nI r, xbc, xfc, xrn, xra, xfi, xfp, xgn, nI (0 + 1), 0, xhm, xrp, xrA, xrB, xrC, xby, xhd, xst, xbg, xco, xen, xre, xld, xim, xic, xih, xif, xop, xbp, xbq, xsc, upd xna 0 (nI (p * 120 + d + 3)), upd xhe 0 0, upd xlo 1 v4, xsk) (nI x)) → wX_call_98 post (nI x) v4 (nI (p * 120 + d)) (nI r) xbc xfc xrn xra xfi xfp xgn (nI 0) 0 xhm xrp xrA xrB xrC xby xhd xst xbg xco xen xre xld xim xic xih xif xop xbp xbq xsc xna xhe xlo xsk := by
    intro xlo q1 q2
    unfold wX_call_98
    rw [nI_clamp (show p * 120 + d < 2 ^ 31 by omega), hb d hdl, hnp]
    exact ⟨Vd, pk_le np 1 (fun h => A _ (q1 h)) fun h => nm_e (A _ (q2 h))⟩
  refine pk_le np 0 (fun h => B _ (fun _ => ?_) fun h' => absurd h' (by omega)) fun h => nm_e (B _ (fun h' => ?_) fun h' => ?_)
  · rw [show ca_0 np v3 v4 (zz_f xlo (0 * 5) 5) = zz_f xlo (0 * 5) 5 by unfold ca_0; rw [if_pos (by omega)]] at K
    exact K
  · rw [show ca_0 np v3 v4 (zz_f xlo (0 * 5) 5) = upd (zz_f xlo (0 * 5) 5) 0 v3 by unfold ca_0; rw [if_neg (by omega), if_pos (by omega)]] at K
    exact K
  · rw [show ca_0 np v3 v4 (zz_f xlo (0 * 5) 5) = upd (upd (zz_f xlo (0 * 5) 5) 0 v3) 1 v4 by unfold ca_0; rw [if_neg (by omega), if_neg (by omega)]] at K
    exact K
theorem y_callE {post : Int32 → SY → Prop} {x p f np : Nat} {v3 v4 : Int32} (hx : x < 4) (hop : ¬ ybo x = 0) (hp : p < 3) (hbp : ybp x = nI p) (hv : ∀ i, M i < 256) (hn : n ≤ 120) (hF : pl_Fmt (re_b M p) n) (hf : f < pl_nf (re_b M p)) (hR : re_RU r pt xrp xrA xrB xrC yrp yrq yrl) (hnp : re_b M p (pl_hd (re_b M p) f) = np) (hn2 : np ≤ 2)
    (k4 : (∃ i, de_F pt xrp xrA xrB xrC r (re_b M p) i) → post 4 (nI r, ypl, ynu, yps, yfi, yac, yre, yme, yrp, yrq, yrl, fun i => nI (M i), yle, ypr, ywa, ybp, ybq, ybo, ysc, yfn, yat, yhi, ylo, yen))
    (k : (∀ i, i < re_b M p 1 → ¬ de_A pt xrp xrA xrB xrC r (re_b M p) i = 0) → ∃ m, wY_call_115 post (nI x) (nI p) m (-1) 0 (nI r) ypl ynu yps yfi (nI (0 + 1)) 0 yme yrp yrq yrl (fun i => nI (M i)) yle ypr ywa ybp ybq ybo ysc (upd yfn 0 (nI f)) (upd yat 0 (nI (p * 120 + pl_s (re_b M p) f))) (upd yhi 0 0) (ca_0 np v3 v4 (zz_f ylo (0 * 5) 5)) yen) : wpY_call post (nI r, ypl, ynu, yps, yfi, yac, yre, yme, yrp, yrq, yrl, fun i => nI (M i), yle, ypr, ywa, ybp, ybq, ybo, ysc, yfn, yat, yhi, ylo, yen) (nI x) (nI f) v3 v4 := by
  have Vx : vp_in (nI x) 4 := vp_in_nI hx (by omega)
  have h4 := hF.2.2.2.1
  have he := pl_ef hF hf
  have hh := pl_hf hF hf
  have hi : ∀ i, i < f → pl_hd (re_b M p) i + 2 < 120 := by
    intro i h
    have := pl_hd_le (re_b M p) i f (by omega)
    omega
  have Vd : vp_in (nI (p * 120 + pl_hd (re_b M p) f)) 480 := vp_in_nI (by omega) (by omega)
  unfold wpY_call
  dsimp only
  refine y_isOpen (fun j hj e z => br_f ba_10 (br_f (nI_pos (by omega)) ⟨Vx, ?_⟩)) fun z => absurd ⟨x, hx, rfl, hop⟩ z
  rw [nI_clamp (show x < 2 ^ 31 by omega), hbp]
  refine y_functions (by omega) hF.1 (br_t (nI_lt hf (by omega)) ⟨Vx, nm_e ?_⟩)
  refine y_denied (by omega) hR hF.1 hF.2.1 (fun i hi => br_f (nI_pos (by have := hi.1; have := hF.1; omega)) (k4 ⟨i, hi⟩)) fun hD => br_t ba_m1lt ?_
  refine y_enter (q := 0) (by omega) (by omega) hn hF hf ?_
  refine y_head (by omega) (by omega) hF.1 hi ⟨Vd, ?_⟩
  have K := k hD
  have B : ∀ ylo : Nat → Int32, (np ≤ 1 → ∃ m, wY_call_115 post (nI x) (nI p) m (-1) 0 (nI r) ypl ynu yps yfi (nI (0 + 1)) 0 yme yrp yrq yrl (fun i => nI (M i)) yle ypr ywa ybp ybq ybo ysc (upd yfn 0 (nI f)) (upd yat 0 (nI (p * 120 + pl_s (re_b M p) f))) (upd yhi 0 0) ylo yen) → (1 < np → ∃ m, wY_call_115 post (nI x) (nI p) m (-1) 0 (nI r) ypl ynu yps yfi (nI (0 + 1)) 0 yme yrp yrq yrl (fun i => nI (M i)) yle ypr ywa ybp ybq ybo ysc (upd yfn 0 (nI f)) (upd yat 0 (nI (p * 120 + pl_s (re_b M p) f))) (upd yhi 0 0) (upd ylo 1 v4) yen) →
      wY_call_90 post (nI x) v4 (nI p) (nI (p * 120 + pl_hd (re_b M p) f)) (nI r) ypl ynu yps yfi (nI (0 + 1)) 0 yme yrp yrq yrl (fun i => nI (M i)) yle ypr ywa ybp ybq ybo ysc (upd yfn 0 (nI f)) (upd yat 0 (nI (p * 120 + pl_s (re_b M p) f))) (upd yhi 0 0) ylo yen := by
    intro ylo q1 q2
    unfold wY_call_90
    dsimp only
    rw [y_rd (by omega) (by omega), hnp]
    exact ⟨Vd, pk_le np 1 q1 fun h => nm_e (q2 h)⟩
  dsimp only
  rw [y_rd (by omega) (by omega), hnp]
  refine pk_le np 0 (fun h => B _ (fun _ => ?_) fun h' => absurd h' (by omega)) fun h => nm_e (B _ (fun h' => ?_) fun h' => ?_)
  · rw [show ca_0 np v3 v4 (zz_f ylo (0 * 5) 5) = zz_f ylo (0 * 5) 5 by unfold ca_0; rw [if_pos (by omega)]] at K
    exact K
  · rw [show ca_0 np v3 v4 (zz_f ylo (0 * 5) 5) = upd (zz_f ylo (0 * 5) 5) 0 v3 by unfold ca_0; rw [if_neg (by omega), if_pos (by omega)]] at K
    exact K
  · rw [show ca_0 np v3 v4 (zz_f ylo (0 * 5) 5) = upd (upd (zz_f ylo (0 * 5) 5) 0 v3) 1 v4 by unfold ca_0; rw [if_neg (by omega), if_neg (by omega)]] at K
    exact K
end D9
section E1
variable {r n : Nat} {pt M b : Nat → Nat} {xrc xbc xfc xrn xra xfi xfp xgn xac xlr : Int32} {xhm : Int64} {xrp xrA xrB xrC xby xhd xst xbg xco xen xre xld xim xic xih xif xop xbp xbq xsc xna xhe xlo xsk : Nat → Int32} {yru ypl ynu yps yfi yac yre : Int32} {yme : Int64} {yrp yrq yrl yby yle ypr ywa ybp ybq ybo ysc yfn yat yhi ylo yen : Nat → Int32}
theorem i_vc_call {k : Nat} {u : SX} {v : SY} (I : i_Rel k u v) (hk : k + 5 ≤ 2560) (v1 : Int32) (v2 : Int32) (v3 : Int32) (v4 : Int32) : wpX_call (fun r u' => wpY_call (fun r' v' => r' = r ∧ i_Rel (k + 5) u' v') v v1 v2 v3 v4) u v1 v2 v3 v4 := by
  obtain ⟨r, n, pt, M, xfc, xrn, xra, xfi, xfp, xgn, xac, xlr, xhm, xrp, xrA, xrB, xrC, xby, xhd, xst, xbg, xco, xen, xre, xld, xim, xic, xih, xif, xop, xbp, xbq, xsc, xna, xhe, xlo, xsk, yps, yfi, yac, yrp, yrq, yrl, yle, ywa, yfn, yat, yhi, ylo, yen, rfl, rfl, h⟩ := I
  have J : i_Rel (k + 5) (nI r, nI n, xfc, xrn, xra, xfi, xfp, xgn, xac, xlr, xhm, xrp, xrA, xrB, xrC, xby, xhd, xst, xbg, xco, xen, xre, xld, xim, xic, xih, xif, xop, xbp, xbq, xsc, xna, xhe, xlo, xsk) (nI r, xfp, xgn, yps, yfi, yac, xlr, xhm, yrp, yrq, yrl, fun i => nI (M i), yle, xld, ywa, xbp, xbq, xop, xsc, yfn, yat, yhi, ylo, yen) := re_mk h
  obtain ⟨hR, ⟨hn, hl, hM, him, hb⟩, hP, hX⟩ := h
  by_cases ho : bo_ok 4 xop v1
  case neg =>
    unfold wpX_call
    dsimp only
    refine x_isBox (fun j hj e z => absurd ⟨j, hj, e, z⟩ ho) fun _ => br_t rfl ?_
    unfold wpY_call
    dsimp only
    exact y_isOpen (fun j hj e z => absurd ⟨j, hj, e, z⟩ ho) fun _ => br_t rfl ⟨rfl, J⟩
  obtain ⟨x, hx, rfl, hop⟩ := ho
  obtain ⟨p, q, hp, hq2, hbp, hld, hbq⟩ := hX x hx hop
  obtain ⟨⟨N, hW⟩, hif, hih⟩ := hP p hp hld
  have hWF := hW
  obtain ⟨hN, hF, hff⟩ := hWF
  have h4 := hF.2.2.2.1
  have Vx : vp_in (nI x) 4 := vp_in_nI hx (by omega)
  by_cases hf : ∃ f, f < pl_nf (re_b M p) ∧ v2 = nI f
  case neg =>
    -- no function of its plugin
    have c1 : ¬ v2 < 0 → ¬ v2 < nI (pl_nf (re_b M p)) := by
      intro z1 z2
      obtain ⟨f, hf1, rfl⟩ := nI_of z1
      exact hf ⟨f, (nI_ltI hf1 (by omega)).mp z2, rfl⟩
    unfold wpX_call
    dsimp only
    refine x_isBox (fun j hj e z => br_f ba_10 ?_) fun z => absurd ⟨x, hx, rfl, hop⟩ z
    rw [nI_clamp (show x < 2 ^ 31 by omega), hbp]
    have Y5 : wpY_call (fun r' v' => r' = 5 ∧ i_Rel (k + 5) (nI r, nI n, xfc, xrn, xra, xfi, xfp, xgn, xac, xlr, xhm, xrp, xrA, xrB, xrC, xby, xhd, xst, xbg, xco, xen, xre, xld, xim, xic, xih, xif, xop, xbp, xbq, xsc, xna, xhe, xlo, xsk) v') (nI r, xfp, xgn, yps, yfi, yac, xlr, xhm, yrp, yrq, yrl, fun i => nI (M i), yle, xld, ywa, xbp, xbq, xop, xsc, yfn, yat, yhi, ylo, yen) (nI x) v2 v3 v4 := by
      unfold wpY_call
      dsimp only
      refine y_isOpen (fun j hj e z => br_f ba_10 (br_c (fun _ => ⟨rfl, J⟩) fun z1 => ⟨Vx, ?_⟩)) fun z => absurd ⟨x, hx, rfl, hop⟩ z
      rw [nI_clamp (show x < 2 ^ 31 by omega), hbp]
      exact y_functions (by omega) hF.1 (br_f (c1 z1) ⟨rfl, J⟩)
    refine ⟨Vx, nm_e (br_c (fun _ => Y5) fun z1 => ⟨vp_in_nI hp (by omega), ?_⟩)⟩
    rw [nI_clamp (show p < 2 ^ 31 by omega), hif]
    exact br_f (c1 z1) Y5
  obtain ⟨f, hf, rfl⟩ := hf
  have he := pl_ef hF hf
  have hh := pl_hf hF hf
  have np2 : re_b M p (pl_hd (re_b M p) f) ≤ 2 := (hF.2.2.2.2.1 f hf).1
  have him' : ∀ i, i < 120 → xim (p * 120 + i) = nI (re_b M p i) := fun i hi => by rw [him _ (by omega), re_bi hi]
  have hRx : ∀ i, i < r → pt i ≤ 3 ∧ (xrp i) >>> ((1 : Int32) &&& 31) = nI (pt i) := fun i hi => ⟨(hR.2 i hi).1, (hR.2 i hi).2.1⟩
  refine x_callE (b := re_b M p) (pt := pt) hx hop hp hbp hif hf h4 hR.1 hRx hF.1 him' (hih f hf).1 (by omega) rfl np2 (fun hD => ?_) fun hD => ?_
  · refine y_callE (xrp := xrp) (xrA := xrA) (xrB := xrB) (xrC := xrC) hx hop hp hbp hM hN hF hf hR rfl np2 (fun _ => ⟨rfl, J⟩) fun z => ?_
    obtain ⟨i, hi⟩ := hD
    exact absurd hi.2.1 (z i hi.1)
  have hV : rn_V M p x N xim xic xih xbp := ⟨hp, hx, hM, hW, him', hbp, fun f hf => hih f hf⟩
  have hLs : pl_L (re_b M p) f (pl_s (re_b M p) f) := Or.inl rfl
  obtain ⟨w, rs, hm, bq, sc, ac1, na1, he1, lo1, sk1, yc1, fn1, at1, hi1, yl1, en1, e1, ⟨q', e2, e2'⟩, e3, e4⟩ :=
    rn_main (q0 := xbq) (xrc := nI r) (xbc := nI n) (xfc := xfc) (xrn := xrn) (xra := xra) (xfi := xfi) (xfp := xfp) (xgn := xgn) (xac := xac) (xlr := xlr) (xhm := xhm) (xrp := xrp) (xrA := xrA) (xrB := xrB) (xrC := xrC) (xby := xby) (xhd := xhd) (xst := xst) (xbg := xbg) (xco := xco) (xen := xen) (xre := xre) (xld := xld) (xif := xif) (xop := xop) (xbq := xbq) (xsc := xsc) (xna := xna) (xhe := xhe) (xlo := xlo) (xsk := xsk)
      (yru := nI r) (ypl := xfp) (ynu := xgn) (yps := yps) (yfi := yfi) (yac := yac) (yre := xlr) (yme := xhm) (yrp := yrp) (yrq := yrq) (yrl := yrl) (yby := fun i => nI (M i)) (yle := yle) (ypr := xld) (ywa := ywa) (ybp := xbp) (ybq := xbq) (ybo := xop) (ysc := xsc) (yfn := yfn) (yat := yat) (yhi := yhi) (ylo := ylo) (yen := yen)
      hV 2000 0 f (pl_s (re_b M p) f) 0 q 0 xhm xbq xsc (upd xna 0 (nI (p * 120 + pl_hd (re_b M p) f + 3))) (upd xhe 0 0) (ca_0 (re_b M p (pl_hd (re_b M p) f)) v3 v4 (zz_f xlo (0 * 5) 5)) xsk (upd yfn 0 (nI f)) (upd yat 0 (nI (p * 120 + pl_s (re_b M p) f))) (upd yhi 0 0) (ca_0 (re_b M p (pl_hd (re_b M p) f)) v3 v4 (zz_f ylo (0 * 5) 5)) yen
      (by omega) (by omega) (fun l hl => absurd hl (by omega)) ⟨hf, pk_us, by rw [pk_us]; exact congrArg nI (by unfold pl_s; omega), pk_us, pk_us, pk_us, by omega, fun j hj => absurd hj (by omega), fun i hi => by
        rw [Nat.zero_mul, Nat.zero_add]
        refine ca_0e (fun i hi => ?_) i hi
        rw [show i = 0 + i by omega, zz_in 5 hi, zz_in 5 hi]⟩ (rr_0 hF hf) (fun y _ => rfl) hbq hq2 (by rw [pl_T_L hLs]; omega)
  refine ⟨2001, e3 _ ?_⟩
  refine y_callE (xrp := xrp) (xrA := xrA) (xrB := xrB) (xrC := xrC) hx hop hp hbp hM hN hF hf hR rfl np2 (fun ⟨i, hi⟩ => absurd hi.2.1 (hD i hi.1)) fun _ => ⟨2002, e4 _ ⟨rfl, ?_⟩⟩
  refine re_mk ⟨hR, ⟨hn, hl, hM, him, hb⟩, hP, fun y hy hz => ?_⟩
  by_cases ey : y = x
  · subst ey
    exact ⟨p, q', hp, e2, hbp, hld, e2'⟩
  · rw [e1 y ey]
    exact hX y hy hz
end E1
end
