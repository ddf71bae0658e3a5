section A2
/-! the plugin's bytes as naturals b, counted from its own beginning -/
def pl_sz (c : Nat) : Nat := if c ≤ 2 ∨ (10 ≤ c ∧ c ≤ 15) then 2 else 1
def pl_hd (b : Nat → Nat) : Nat → Nat
  | 0 => 3 + 3 * b 1
  | f + 1 => pl_hd b f + 3 + b (pl_hd b f + 2)
def pl_nf (b : Nat → Nat) : Nat := b (2 + 3 * b 1)
def pl_s (b : Nat → Nat) (f : Nat) : Nat := pl_hd b f + 3
def pl_e (b : Nat → Nat) (f : Nat) : Nat := pl_hd b f + 3 + b (pl_hd b f + 2)
/-- the k-th instruction from s on -/
def pl_sc (b : Nat → Nat) (s : Nat) : Nat → Nat
  | 0 => s
  | k + 1 => pl_sc b s k + pl_sz (b (pl_sc b s k))
/-- i is the first byte of an instruction of function f -/
def pl_IS (b : Nat → Nat) (f i : Nat) : Prop := i < pl_e b f ∧ ∃ k, pl_sc b (pl_s b f) k = i
def pl_sg (c : Nat) : Int := if c < 128 then (c : Int) else (c : Int) - 256
def pl_tg (b : Nat → Nat) (i : Nat) : Int := (i : Int) + 2 + pl_sg (b (i + 1))
def pl_wt (c : Nat) : Nat := if c = 13 then 5 else 1
def pl_tk (b : Nat → Nat) (i : Nat) : Nat :=
  if b i = 12 then b (pl_hd b (b (i + 1))) else if 3 ≤ b i ∧ b i ≤ 7 then 2 else if b i = 0 ∨ b i = 1 ∨ b i = 10 ∨ b i = 14 then 0 else 1
def pl_gv (c : Nat) : Nat := if c = 8 then 2 else if c ≤ 1 ∨ (3 ≤ c ∧ c ≤ 7) ∨ (12 ≤ c ∧ c ≤ 14) then 1 else 0
/-- what an operand stays below -/
def pl_li (b : Nat → Nat) (f c : Nat) : Nat :=
  if c = 1 ∨ c = 2 then b (pl_hd b f) + b (pl_hd b f + 1) else if c = 12 then pl_nf b else if c = 13 then b 1 else if c = 14 ∨ c = 15 then 4 else 256
/-- a bad code at i -/
def pl_bad (b : Nat → Nat) (f i : Nat) : Prop := 16 < b i ∨ (pl_sz (b i) = 2 ∧ (pl_e b f ≤ i + 1 ∨ pl_li b f (b i) ≤ b (i + 1)))
def pl_jok (b : Nat → Nat) (f i : Nat) : Prop := (b i = 10 ∨ b i = 11) → ∃ j : Nat, pl_tg b i = (j : Int) ∧ pl_s b f ≤ j ∧ pl_IS b f j
/-- a block begins at j -/
def pl_L (b : Nat → Nat) (f j : Nat) : Prop :=
  j = pl_s b f ∨ ∃ i, pl_IS b f i ∧ (((b i = 10 ∨ b i = 11) ∧ pl_tg b i = (j : Int)) ∨ (10 ≤ b i ∧ b i ≤ 13 ∧ i + 2 = j) ∨ (b i = 16 ∧ i + 1 = j))
/-- the cost from i on to the next block or the end -/
noncomputable def pl_cs (b : Nat → Nat) (f : Nat) : Nat → Nat → Nat
  | 0, _ => 0
  | n + 1, i => if pl_e b f ≤ i then 0 else @ite _ (pl_L b f i) (Classical.propDecidable _) 0 (pl_wt (b i) + pl_cs b f n (i + pl_sz (b i)))
noncomputable def pl_T (b : Nat → Nat) (f i : Nat) : Nat := pl_cs b f (pl_e b f - i) i
noncomputable def pl_C (b : Nat → Nat) (f i : Nat) : Nat := @ite _ (pl_L b f i) (Classical.propDecidable _) (pl_wt (b i) + pl_T b f (i + pl_sz (b i))) 0
/-- all ways of f keep the rule of heights: R i h says that i is reached with h entries -/
def pl_Good (b : Nat → Nat) (f : Nat) (R : Nat → Nat → Prop) : Prop :=
  R (pl_s b f) 0 ∧ (∀ i h h', R i h → R i h' → h = h') ∧ ∀ i h, R i h → pl_tk b i ≤ h ∧ h - pl_tk b i + pl_gv (b i) ≤ 6 ∧
    ((b i = 10 ∨ b i = 11) → ∃ j : Nat, pl_tg b i = (j : Int) ∧ pl_s b f ≤ j ∧ j < pl_e b f ∧ R j (h - pl_tk b i + pl_gv (b i))) ∧
    (b i ≠ 10 → b i ≠ 16 → i + pl_sz (b i) < pl_e b f ∧ R (i + pl_sz (b i)) (h - pl_tk b i + pl_gv (b i)))
def pl_Flow (b : Nat → Nat) (f : Nat) : Prop := ∃ R, pl_Good b f R
/-- the format -/
def pl_Fmt (b : Nat → Nat) (n : Nat) : Prop :=
  b 1 ≤ 4 ∧ (∀ i, i < 3 * b 1 → b (2 + i) ≤ 7) ∧ 1 ≤ pl_nf b ∧ pl_nf b ≤ 4 ∧
    (∀ f, f < pl_nf b → b (pl_hd b f) ≤ 2 ∧ b (pl_hd b f + 1) ≤ 3 ∧ 1 ≤ b (pl_hd b f + 2) ∧ b (pl_hd b f + 2) ≤ 40) ∧ pl_hd b (pl_nf b) = n
def pl_WF (b : Nat → Nat) (n : Nat) : Prop :=
  n ≤ 120 ∧ pl_Fmt b n ∧ (∀ f, f < pl_nf b → (∀ i, pl_IS b f i → ¬ pl_bad b f i) ∧ (∀ i, pl_IS b f i → pl_jok b f i) ∧ pl_Flow b f)
theorem pl_e_hd (b : Nat → Nat) (f : Nat) : pl_e b f = pl_hd b (f + 1) := rfl
theorem pl_sz_pos (c : Nat) : 1 ≤ pl_sz c ∧ pl_sz c ≤ 2 := by
  unfold pl_sz; split <;> omega
theorem pl_sc_lt (b : Nat → Nat) (s : Nat) : ∀ k m, k < m → pl_sc b s k < pl_sc b s m := by
  intro k m h
  induction m with
  | zero => omega
  | succ m ih =>
    have h1 := pl_sz_pos (b (pl_sc b s m))
    show _ < pl_sc b s m + pl_sz (b (pl_sc b s m))
    by_cases e : k = m
    · subst e; omega
    · have := ih (by omega); omega
theorem pl_sc_inj {b : Nat → Nat} {s k m : Nat} (h : pl_sc b s k = pl_sc b s m) : k = m := by
  by_cases h1 : k < m
  · have := pl_sc_lt b s k m h1; omega
  · by_cases h2 : m < k
    · have := pl_sc_lt b s m k h2; omega
    · omega
theorem pl_sc_ge (b : Nat → Nat) (s : Nat) : ∀ k, s + k ≤ pl_sc b s k := by
  intro k
  induction k with
  | zero => exact Nat.le_refl _
  | succ k ih =>
    have h1 := pl_sz_pos (b (pl_sc b s k))
    show _ ≤ pl_sc b s k + pl_sz (b (pl_sc b s k))
    omega
theorem pl_IS0 {b : Nat → Nat} {f : Nat} (h : 1 ≤ b (pl_hd b f + 2)) : pl_IS b f (pl_s b f) :=
  ⟨by unfold pl_s pl_e; omega, 0, rfl⟩
theorem pl_ISn {b : Nat → Nat} {f i : Nat} (h : pl_IS b f i) (hn : i + pl_sz (b i) < pl_e b f) : pl_IS b f (i + pl_sz (b i)) := by
  obtain ⟨_, k, rfl⟩ := h
  exact ⟨hn, k + 1, rfl⟩
theorem pl_ISge {b : Nat → Nat} {f i : Nat} (h : pl_IS b f i) : pl_s b f ≤ i := by
  obtain ⟨_, k, rfl⟩ := h
  have := pl_sc_ge b (pl_s b f) k
  omega
theorem pl_cs_fuel {b : Nat → Nat} {f : Nat} : ∀ n m i, pl_e b f - i ≤ n → pl_e b f - i ≤ m → pl_cs b f n i = pl_cs b f m i := by
  intro n
  induction n with
  | zero =>
    intro m i h1 h2
    cases m with
    | zero => rfl
    | succ m => show 0 = if pl_e b f ≤ i then 0 else _; rw [if_pos (by omega)]
  | succ n ih =>
    intro m i h1 h2
    by_cases hi : pl_e b f ≤ i
    · cases m with
      | zero => show (if pl_e b f ≤ i then 0 else _) = 0; rw [if_pos hi]
      | succ m => show (if pl_e b f ≤ i then 0 else _) = if pl_e b f ≤ i then 0 else _; rw [if_pos hi, if_pos hi]
    · cases m with
      | zero => omega
      | succ m =>
        have := pl_sz_pos (b i)
        show (if pl_e b f ≤ i then 0 else _) = if pl_e b f ≤ i then 0 else _
        rw [if_neg hi, if_neg hi, ih m (i + pl_sz (b i)) (by omega) (by omega)]
theorem pl_T_end {b : Nat → Nat} {f i : Nat} (h : pl_e b f ≤ i) : pl_T b f i = 0 := by
  unfold pl_T
  rw [show pl_e b f - i = 0 by omega]
  rfl
theorem pl_T_L {b : Nat → Nat} {f i : Nat} (h : pl_L b f i) : pl_T b f i = 0 := by
  by_cases hi : pl_e b f ≤ i
  · exact pl_T_end hi
  · unfold pl_T
    rw [pl_cs_fuel (pl_e b f - i) (pl_e b f - i + 1) i (by omega) (by omega)]
    show (if pl_e b f ≤ i then 0 else _) = 0
    rw [if_neg hi, if_pos h]
theorem pl_T_n {b : Nat → Nat} {f i : Nat} (hi : i < pl_e b f) (h : ¬ pl_L b f i) : pl_T b f i = pl_wt (b i) + pl_T b f (i + pl_sz (b i)) := by
  have := pl_sz_pos (b i)
  unfold pl_T
  rw [pl_cs_fuel (pl_e b f - i) (pl_e b f - i + 1) i (by omega) (by omega)]
  show (if pl_e b f ≤ i then 0 else _) = _
  rw [if_neg (by omega), if_neg h, pl_cs_fuel (pl_e b f - i) (pl_e b f - (i + pl_sz (b i))) _ (by omega) (by omega)]
theorem pl_C_L {b : Nat → Nat} {f i : Nat} (h : pl_L b f i) : pl_C b f i = pl_wt (b i) + pl_T b f (i + pl_sz (b i)) := if_pos h
theorem pl_C_n {b : Nat → Nat} {f i : Nat} (h : ¬ pl_L b f i) : pl_C b f i = 0 := if_neg h
theorem pl_wt_pos (c : Nat) : 1 ≤ pl_wt c ∧ pl_wt c ≤ 5 := by unfold pl_wt; split <;> omega
theorem pl_cs_le {b : Nat → Nat} {f : Nat} : ∀ n i, pl_cs b f n i ≤ 5 * n := by
  intro n
  induction n with
  | zero => intro i; exact Nat.le_refl _
  | succ n ih =>
    intro i
    show (if pl_e b f ≤ i then 0 else _) ≤ _
    split
    · omega
    · have h1 := pl_wt_pos (b i)
      have h2 := ih (i + pl_sz (b i))
      split <;> omega
theorem pl_T_le {b : Nat → Nat} {f i : Nat} (h : pl_s b f ≤ i) (hl : b (pl_hd b f + 2) ≤ 40) : pl_T b f i ≤ 200 := by
  have := pl_cs_le (b := b) (f := f) (pl_e b f - i) i
  have h2 : pl_e b f = pl_s b f + b (pl_hd b f + 2) := rfl
  unfold pl_T
  omega
end A2
