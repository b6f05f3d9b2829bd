/-! how a table is filled cell by cell (the reference: 15 cells a row), and how one row is overwritten from left to right (the class) -/
def sw_Tab (L : Nat → Nat → Nat) (tab : Nat → Int32) (x y j : Nat) : Prop := ∀ p q, q ≤ j → (p < x ∨ (p = x ∧ q < y)) → tab (p * 15 + q) = nI (L p q)
theorem sw_Tab0 (L : Nat → Nat → Nat) (tab : Nat → Int32) (j : Nat) : sw_Tab L tab 0 0 j := by
  intro p q _ h
  omega
theorem sw_TabS {L : Nat → Nat → Nat} {tab : Nat → Int32} {x y j : Nat} {v : Int32} (H : sw_Tab L tab x y j) (hj : j ≤ 14) (hy : y ≤ j) (e : v = nI (L x y)) : sw_Tab L (upd tab (x * 15 + y) v) x (y + 1) j := by
  intro p q hq h
  by_cases c : p * 15 + q = x * 15 + y
  · obtain ⟨rfl, rfl⟩ : p = x ∧ q = y := ⟨by omega, by omega⟩
    rw [pk_us]
    exact e
  · rw [pk_un c]
    refine H p q hq ?_
    rcases h with h | ⟨h1, h2⟩
    · exact Or.inl h
    · subst h1
      exact Or.inr ⟨rfl, by omega⟩
theorem sw_TabR {L : Nat → Nat → Nat} {tab : Nat → Int32} {x j : Nat} (H : sw_Tab L tab x (j + 1) j) : sw_Tab L tab (x + 1) 0 j := by
  intro p q hq h
  exact H p q hq (by omega)
def sw_Row (L : Nat → Nat → Nat) (row : Nat → Int32) (x y w : Nat) : Prop := (∀ q, q < y → row q = nI (L (x + 1) q)) ∧ (∀ q, y ≤ q → q ≤ w → row q = nI (L x q))
theorem sw_RowS {L : Nat → Nat → Nat} {row : Nat → Int32} {x y w : Nat} {v : Int32} (H : sw_Row L row x y w) (e : v = nI (L (x + 1) y)) : sw_Row L (upd row y v) x (y + 1) w := by
  constructor
  · intro q hq
    by_cases c : q = y
    · subst c
      rw [pk_us]
      exact e
    · rw [pk_un c]
      exact H.1 q (by omega)
  · intro q h1 h2
    rw [pk_un (by omega)]
    exact H.2 q (by omega) h2
def sw_Full (L : Nat → Nat → Nat) (row : Nat → Int32) (x w : Nat) : Prop := ∀ q, q ≤ w → row q = nI (L x q)
theorem sw_RowE {L : Nat → Nat → Nat} {row : Nat → Int32} {x w : Nat} (H : sw_Row L row x (w + 1) w) : sw_Full L row (x + 1) w := fun q hq => H.1 q (by omega)
theorem sw_RowB {L : Nat → Nat → Nat} {row : Nat → Int32} {x w : Nat} (H : sw_Full L row x w) (e : row 0 = nI (L (x + 1) 0)) : sw_Row L row x 1 w := by
  constructor
  · intro q hq
    obtain rfl : q = 0 := by omega
    exact e
  · intro q _ h2
    exact H q h2
/-- the first row, written from left to right -/
theorem sw_FillS {f : Nat → Nat} {row : Nat → Int32} {y : Nat} {v : Int32} (H : ∀ q, q < y → row q = nI (f q)) (e : v = nI (f y)) : ∀ q, q < y + 1 → upd row y v q = nI (f q) := by
  intro q hq
  by_cases c : q = y
  · subst c
    rw [pk_us]
    exact e
  · rw [pk_un c]
    exact H q (by omega)
theorem sw_max {P : Int32 → Prop} {p q : Nat} (hp : p < 2 ^ 31) (hq : q < 2 ^ 31) (h : P (nI (max p q))) : (nI p ≤ nI q → P (nI q)) ∧ (¬ nI p ≤ nI q → P (nI p)) := by
  refine pk_le p q (fun c => ?_) (fun c => ?_)
  · rw [Nat.max_eq_right c] at h
    exact h
  · rw [Nat.max_eq_left (Nat.le_of_lt c)] at h
    exact h
theorem sw_min {P : Int32 → Prop} {p q : Nat} (hp : p < 2 ^ 31) (hq : q < 2 ^ 31) (h : P (nI (min p q))) : (nI q ≤ nI p → P (nI q)) ∧ (¬ nI q ≤ nI p → P (nI p)) := by
  refine pk_le q p (fun c => ?_) (fun c => ?_)
  · rw [Nat.min_eq_right c] at h
    exact h
  · rw [Nat.min_eq_left (Nat.le_of_lt c)] at h
    exact h
