section CHC
/-! D: positions that are moved: sold, or allocated -/
def ch_al (g : Nat → Int32) (i : Nat) (p : Nat → Int32) : Nat → Nat → Int32
  | 0 => p
  | m + 1 => upd (ch_al g i p m) (m * 4 + i) (ch_al g i p m (m * 4 + i) + g m)
theorem ch_alE {g : Nat → Int32} {i : Nat} {p : Nat → Int32} (hi : i < 4) : ∀ n s, ch_al g i p n s = if s % 4 = i ∧ s / 4 < n then p s + g (s / 4) else p s := by
  intro n
  induction n with
  | zero => intro s; rw [if_neg (fun q => Nat.not_lt_zero _ q.2)]; rfl
  | succ n ih =>
    intro s
    show upd (ch_al g i p n) (n * 4 + i) (ch_al g i p n (n * 4 + i) + g n) s = _
    by_cases q : s = n * 4 + i
    · have e1 : s % 4 = i := by omega
      have e2 : s / 4 = n := by omega
      rw [if_pos ⟨e1, by omega⟩, ← q, ch_us, ih, if_neg (fun z => by omega), e2]
    · rw [ch_un q, ih]
      by_cases z : s % 4 = i ∧ s / 4 < n
      · rw [if_pos z, if_pos ⟨z.1, by omega⟩]
      · rw [if_neg z, if_neg (fun y => z ⟨y.1, by omega⟩)]
theorem ch_al0 {g : Nat → Int32} {i : Nat} {p : Nat → Int32} : ∀ n, (∀ m, m < n → g m = 0) → ch_al g i p n = p := by
  intro n
  induction n with
  | zero => intro _; rfl
  | succ n ih =>
    intro h
    show upd (ch_al g i p n) (n * 4 + i) (ch_al g i p n (n * 4 + i) + g n) = p
    rw [ih (fun m hm => h m (by omega)), h n (by omega)]
    exact ch_uId (Int32.add_zero _).symm
theorem ch_alU {g : Nat → Int32} {i s : Nat} {p : Nat → Int32} (hi : i < 4) : ∀ n, s < n → (∀ m, m < n → m ≠ s → g m = 0) → ch_al g i p n = upd p (s * 4 + i) (p (s * 4 + i) + g s) := by
  intro n hs h
  funext t
  rw [ch_alE hi]
  by_cases q : t = s * 4 + i
  · have e2 : t / 4 = s := by omega
    rw [if_pos ⟨by omega, by omega⟩, ← q, ch_us, e2]
  · rw [ch_un q]
    by_cases z : t % 4 = i ∧ t / 4 < n
    · rw [if_pos z, h _ z.2 (by omega), Int32.add_zero]
    · rw [if_neg z]
/-- sold: column after column -/
def ch_se (w d : Nat) (p : Nat → Int32) : Nat → Nat → Int32
  | 0 => p
  | i + 1 => upd (upd (ch_se w d p i) (w * 4 + i) (ch_se w d p i (w * 4 + i) + ch_se w d p i (d * 4 + i))) (d * 4 + i) 0
/-- allocated: column after column; G q m: what m gets of q -/
def ch_aa (G : Int32 → Nat → Int32) (M d : Nat) (p : Nat → Int32) : Nat → Nat → Int32
  | 0 => p
  | i + 1 => upd (ch_al (G (ch_aa G M d p i (d * 4 + i))) i (ch_aa G M d p i) M) (d * 4 + i) 0
def ch_ab (B : Int) (x : Int32) : Prop := -B ≤ x.toInt ∧ x.toInt ≤ B
def ch_col (B : Int) (i : Nat) (p : Nat → Int32) : Prop := ∀ s, (s % 4 < i → ch_ab (2 * B) (p s)) ∧ (i ≤ s % 4 → ch_ab B (p s))
theorem ch_ab0 {B : Int} (h : 0 ≤ B) : ch_ab B 0 := by
  have : (0 : Int32).toInt = 0 := by decide
  unfold ch_ab; rw [this]; omega
theorem ch_abM {B C : Int} {x : Int32} (h : ch_ab B x) (hc : B ≤ C) : ch_ab C x := ⟨by have := h.1; omega, by have := h.2; omega⟩
theorem ch_abAdd {B C : Int} {x y : Int32} (hx : ch_ab B x) (hy : ch_ab C y) (hB : B + C < 2147483648) : ch_ab (B + C) (x + y) := by
  have a := hx.1; have b := hx.2; have c := hy.1; have d := hy.2
  unfold ch_ab
  rw [ch_addI (by omega) (by omega)]
  omega
theorem ch_seCol {B : Int} (hB : 0 ≤ B) (hB' : 2 * B < 2147483648) {w d : Nat} {p : Nat → Int32} (h : ∀ s, ch_ab B (p s)) : ∀ i, i ≤ 4 → ch_col B i (ch_se w d p i) := by
  intro i
  induction i with
  | zero => intro _ s; exact ⟨fun z => absurd z (Nat.not_lt_zero _), fun _ => h s⟩
  | succ i ih =>
    intro hi s
    have I := ih (by omega)
    show (_ → ch_ab _ (upd (upd (ch_se w d p i) (w * 4 + i) (ch_se w d p i (w * 4 + i) + ch_se w d p i (d * 4 + i))) (d * 4 + i) 0 s)) ∧ (_ → ch_ab _ (upd (upd (ch_se w d p i) (w * 4 + i) (ch_se w d p i (w * 4 + i) + ch_se w d p i (d * 4 + i))) (d * 4 + i) 0 s))
    by_cases q : s = d * 4 + i
    · rw [q, ch_us]
      exact ⟨fun _ => ch_ab0 (by omega), fun _ => ch_ab0 (by omega)⟩
    · rw [ch_un q]
      by_cases z : s = w * 4 + i
      · rw [z, ch_us]
        have a := (I (w * 4 + i)).2 (by omega)
        have b := (I (d * 4 + i)).2 (by omega)
        have c := ch_abAdd a b (by omega)
        exact ⟨fun _ => ch_abM c (by omega), fun y => by omega⟩
      · rw [ch_un z]
        refine ⟨fun y => ?_, fun y => (I s).2 (by omega)⟩
        by_cases v : s % 4 < i
        · exact (I s).1 v
        · exact ch_abM ((I s).2 (by omega)) (by omega)
theorem ch_aaCol {B : Int} (hB : 0 ≤ B) (hB' : 2 * B < 2147483648) {G : Int32 → Nat → Int32} {M d : Nat} {p : Nat → Int32} (hG : ∀ q, ch_ab B q → ∀ m, m < M → ch_ab B (G q m)) (h : ∀ s, ch_ab B (p s)) : ∀ i, i ≤ 4 → ch_col B i (ch_aa G M d p i) := by
  intro i
  induction i with
  | zero => intro _ s; exact ⟨fun z => absurd z (Nat.not_lt_zero _), fun _ => h s⟩
  | succ i ih =>
    intro hi s
    have I := ih (by omega)
    show (_ → ch_ab _ (upd (ch_al (G (ch_aa G M d p i (d * 4 + i))) i (ch_aa G M d p i) M) (d * 4 + i) 0 s)) ∧ (_ → ch_ab _ (upd (ch_al (G (ch_aa G M d p i (d * 4 + i))) i (ch_aa G M d p i) M) (d * 4 + i) 0 s))
    by_cases q : s = d * 4 + i
    · rw [q, ch_us]
      exact ⟨fun _ => ch_ab0 (by omega), fun _ => ch_ab0 (by omega)⟩
    · rw [ch_un q, ch_alE (by omega)]
      by_cases z : s % 4 = i ∧ s / 4 < M
      · rw [if_pos z]
        have a := (I s).2 (by omega)
        have b := hG _ ((I (d * 4 + i)).2 (by omega)) _ z.2
        have c := ch_abAdd a b (by omega)
        exact ⟨fun _ => ch_abM c (by omega), fun y => by omega⟩
      · rw [if_neg z]
        refine ⟨fun y => ?_, fun y => (I s).2 (by omega)⟩
        by_cases v : s % 4 < i
        · exact (I s).1 v
        · exact ch_abM ((I s).2 (by omega)) (by omega)
theorem ch_colAll {B : Int} {i : Nat} {p : Nat → Int32} (hB : 0 ≤ B) (h : ch_col B i p) : ∀ s, ch_ab (2 * B) (p s) := by
  intro s
  by_cases v : s % 4 < i
  · exact (h s).1 v
  · exact ch_abM ((h s).2 (by omega)) (by omega)
/-- the first active member below n: it alone -/
def ch_fa (st : Nat → Int32) : Nat → Option Nat
  | 0 => none
  | n + 1 => match ch_fa st n with
    | some s => some s
    | none => if st n = 0 then some n else none
theorem ch_faN {st : Nat → Int32} : ∀ n, ch_fa st n = none → ∀ j, j < n → ¬ st j = 0 := by
  intro n
  induction n with
  | zero => intro _ j hj; omega
  | succ n ih =>
    intro h j hj
    unfold ch_fa at h
    split at h
    · cases h
    · next e =>
      by_cases q : j = n
      · intro z; rw [q] at z; rw [if_pos z] at h; cases h
      · exact ih e j (by omega)
theorem ch_faS {st : Nat → Int32} : ∀ n s, ch_fa st n = some s → s < n ∧ st s = 0 ∧ ∀ j, j < s → ¬ st j = 0 := by
  intro n
  induction n with
  | zero => intro s h; cases h
  | succ n ih =>
    intro s h
    unfold ch_fa at h
    split at h
    · next t e =>
      cases h
      obtain ⟨a, b, c⟩ := ih _ e
      exact ⟨by omega, b, c⟩
    · next e =>
      by_cases q : st n = 0
      · rw [if_pos q] at h
        cases h
        exact ⟨by omega, q, ch_faN n e⟩
      · rw [if_neg q] at h; cases h
end CHC
