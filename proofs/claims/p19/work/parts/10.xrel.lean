section CHD
/-! E: the relation -/
def ch_Ph (M : Nat) (fd : Int32) (st : Nat → Int32) : Prop := (fd = -1 ∧ ∀ j, j < M → ¬ st j = 1) ∨ ∃ d, d < M ∧ fd = nI d ∧ st d = 1 ∧ ∀ j, j < M → j ≠ d → ¬ st j = 1
def ch_Fd (k : Nat) (fu : Nat → Int64) : Prop := ∀ j, 0 ≤ (fu j).toInt ∧ (fu j).toInt ≤ 200000 * (k : Int)
def ch_aL (B : Int) (x : Int64) : Prop := -B ≤ x.toInt ∧ x.toInt ≤ B
def ch_Ca (k : Nat) (ca : Nat → Int64) : Prop := ∀ j, ch_aL (10000000000000 * (k : Int)) (ca j)
def ch_pb (st : Nat → Int32) (M : Nat) : Int := 10000 * ((2 ^ ch_cd st M : Nat) : Int)
def ch_Po (M : Nat) (st ps : Nat → Int32) : Prop := ∀ s, ch_ab (ch_pb st M) (ps s)
def ch_pr (x : Int32) : Prop := 1 ≤ x.toInt ∧ x.toInt ≤ 100000
def ch_Pr (cu se : Nat → Int32) : Prop := ∀ i, i < 4 → ch_pr (cu i) ∧ ch_pr (se i)
def ch_Cn (M N R : Nat) : Prop := (2 ≤ M ∧ M ≤ 8) ∧ (1 ≤ N ∧ N ≤ 4) ∧ (1 ≤ R ∧ R ≤ 50)
theorem ch_FdU {k k' : Nat} {fu : Nat → Int64} (h : ch_Fd k fu) (hk : k ≤ k') : ch_Fd k' fu := by
  intro j; have := h j; omega
theorem ch_aLM {B C : Int} {x : Int64} (h : ch_aL B x) (hc : B ≤ C) : ch_aL C x := ⟨by have := h.1; omega, by have := h.2; omega⟩
theorem ch_CaU {k k' : Nat} {ca : Nat → Int64} (h : ch_Ca k ca) (hk : k ≤ k') : ch_Ca k' ca := by
  intro j; exact ch_aLM (h j) (by omega)
theorem ch_n10 : ¬ (1 : Int32) = 0 := by decide
theorem ch_slot (m i : Nat) : nI m * 4 + nI i = nI (m * 4 + i) := by
  rw [show (4 : Int32) = nI 4 from rfl, pk_mul, nI_add]
theorem ch_pbB {st : Nat → Int32} {M : Nat} (h : M ≤ 8) : 10000 ≤ ch_pb st M ∧ ch_pb st M ≤ 2560000 := by
  have a := ch_cdB st M
  have b : 2 ^ ch_cd st M ≤ 2 ^ 8 := Nat.pow_le_pow_right (by decide) (by omega)
  have c : 1 ≤ 2 ^ ch_cd st M := Nat.one_le_two_pow
  unfold ch_pb
  omega
/-! the small readings -/
theorem ch_sort (x : Int32) {n : Nat} (hn : n < 2 ^ 31) : (x < 0) ∨ (¬ x < 0 ∧ nI n ≤ x) ∨ ∃ j : Nat, j < n ∧ x = nI j ∧ ¬ nI j < 0 ∧ ¬ nI n ≤ nI j := by
  rcases pk_ix x hn with h | h | ⟨j, hj, e⟩
  · exact Or.inl h
  · by_cases q : x < 0
    · exact Or.inl q
    · exact Or.inr (Or.inl ⟨q, h⟩)
  · exact Or.inr (Or.inr ⟨j, hj, e, nI_pos (by omega), nI_ge hj hn⟩)
end CHD
