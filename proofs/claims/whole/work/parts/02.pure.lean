/-! the two tables, row by row; a: letters of A from the begin of the stretch, b: letters of B alike -/
def sw_lrow (c : Int32) (b : Nat → Int32) (p : Nat → Nat) : Nat → Nat
  | 0 => 0
  | y + 1 => if c = b y then p y + 1 else max (p (y + 1)) (sw_lrow c b p y)
def sw_L (a b : Nat → Int32) : Nat → Nat → Nat
  | 0 => fun _ => 0
  | x + 1 => sw_lrow (a x) b (sw_L a b x)
theorem sw_L0 (a b : Nat → Int32) (y : Nat) : sw_L a b 0 y = 0 := rfl
theorem sw_Lz (a b : Nat → Int32) (x : Nat) : sw_L a b x 0 = 0 := by cases x <;> rfl
theorem sw_Le {a b : Nat → Int32} (x y : Nat) (h : a x = b y) : sw_L a b (x + 1) (y + 1) = sw_L a b x y + 1 := if_pos h
theorem sw_Ln {a b : Nat → Int32} (x y : Nat) (h : ¬ a x = b y) : sw_L a b (x + 1) (y + 1) = max (sw_L a b x (y + 1)) (sw_L a b (x + 1) y) := if_neg h
theorem sw_Lqx (a b : Nat → Int32) (x y : Nat) (h1 : sw_L a b x y ≤ sw_L a b x (y + 1)) (h2 : sw_L a b x (y + 1) ≤ sw_L a b x y + 1) (h3 : sw_L a b x y ≤ sw_L a b (x + 1) y) (h4 : sw_L a b (x + 1) y ≤ sw_L a b x y + 1) :
    sw_L a b (x + 1) y ≤ sw_L a b (x + 1) (y + 1) ∧ sw_L a b (x + 1) (y + 1) ≤ sw_L a b (x + 1) y + 1 := by
  by_cases e : a x = b y
  · rw [sw_Le x y e]
    omega
  · rw [sw_Ln x y e]
    omega
theorem sw_Lqy (a b : Nat → Int32) (x y : Nat) (h1 : sw_L a b x y ≤ sw_L a b x (y + 1)) (h2 : sw_L a b x (y + 1) ≤ sw_L a b x y + 1) (h3 : sw_L a b x y ≤ sw_L a b (x + 1) y) (h4 : sw_L a b (x + 1) y ≤ sw_L a b x y + 1) :
    sw_L a b x (y + 1) ≤ sw_L a b (x + 1) (y + 1) ∧ sw_L a b (x + 1) (y + 1) ≤ sw_L a b x (y + 1) + 1 := by
  by_cases e : a x = b y
  · rw [sw_Le x y e]
    omega
  · rw [sw_Ln x y e]
    omega
theorem sw_Lq0 (a b : Nat → Int32) : ∀ s x y : Nat, x + y < s →
    (sw_L a b x y ≤ sw_L a b x (y + 1) ∧ sw_L a b x (y + 1) ≤ sw_L a b x y + 1) ∧ (sw_L a b x y ≤ sw_L a b (x + 1) y ∧ sw_L a b (x + 1) y ≤ sw_L a b x y + 1) := by
  intro s
  induction s with
  | zero => intro x y h; omega
  | succ s ih =>
    intro x y h
    constructor
    · cases x with
      | zero => exact ⟨Nat.le_refl 0, Nat.zero_le _⟩
      | succ x =>
        have q := ih x y (by omega)
        exact sw_Lqx a b x y q.1.1 q.1.2 q.2.1 q.2.2
    · cases y with
      | zero =>
        rw [sw_Lz, sw_Lz]
        exact ⟨Nat.le_refl 0, Nat.zero_le _⟩
      | succ y =>
        have q := ih x y (by omega)
        exact sw_Lqy a b x y q.1.1 q.1.2 q.2.1 q.2.2
theorem sw_Lw (a b : Nat → Int32) (x y : Nat) : sw_L a b x y ≤ sw_L a b x (y + 1) := (sw_Lq0 a b (x + y + 1) x y (by omega)).1.1
theorem sw_Lb (a b : Nat → Int32) (x y : Nat) : sw_L a b x y ≤ x := by
  induction x with
  | zero => exact Nat.le_refl 0
  | succ x ih =>
    have := (sw_Lq0 a b (x + y + 1) x y (by omega)).2.2
    omega
/-- taking the first letter off the second word makes the table no larger -/
theorem sw_Lsh (a b : Nat → Int32) : ∀ x y : Nat, sw_L a (fun z => b (z + 1)) x y ≤ sw_L a b x (y + 1) := by
  intro x
  induction x with
  | zero => intro y; exact Nat.le_refl 0
  | succ x ihx =>
    intro y
    induction y with
    | zero => rw [sw_Lz]; exact Nat.zero_le _
    | succ y ihy =>
      by_cases e : a x = b (y + 1)
      · rw [sw_Le (b := fun z => b (z + 1)) x y e, sw_Le x (y + 1) e]
        have := ihx y
        omega
      · rw [sw_Ln (b := fun z => b (z + 1)) x y e, sw_Ln x (y + 1) e]
        have := ihx (y + 1)
        omega
def sw_drow (c : Int32) (b : Nat → Int32) (p : Nat → Nat) : Nat → Nat
  | 0 => p 0 + 1
  | y + 1 => if c = b y then p y else min (min (p (y + 1)) (sw_drow c b p y)) (p y) + 1
def sw_D (a b : Nat → Int32) : Nat → Nat → Nat
  | 0 => fun y => y
  | x + 1 => sw_drow (a x) b (sw_D a b x)
theorem sw_D0 (a b : Nat → Int32) (y : Nat) : sw_D a b 0 y = y := rfl
theorem sw_Dz (a b : Nat → Int32) (x : Nat) : sw_D a b x 0 = x := by
  induction x with
  | zero => rfl
  | succ x ih => exact congrArg (· + 1) ih
theorem sw_De {a b : Nat → Int32} (x y : Nat) (h : a x = b y) : sw_D a b (x + 1) (y + 1) = sw_D a b x y := if_pos h
theorem sw_Dn {a b : Nat → Int32} (x y : Nat) (h : ¬ a x = b y) : sw_D a b (x + 1) (y + 1) = min (min (sw_D a b x (y + 1)) (sw_D a b (x + 1) y)) (sw_D a b x y) + 1 := if_neg h
theorem sw_Dqx (a b : Nat → Int32) (x y : Nat) (h1 : sw_D a b x y ≤ sw_D a b x (y + 1) + 1) (h2 : sw_D a b x (y + 1) ≤ sw_D a b x y + 1) (h3 : sw_D a b x y ≤ sw_D a b (x + 1) y + 1) (h4 : sw_D a b (x + 1) y ≤ sw_D a b x y + 1) :
    sw_D a b (x + 1) y ≤ sw_D a b (x + 1) (y + 1) + 1 ∧ sw_D a b (x + 1) (y + 1) ≤ sw_D a b (x + 1) y + 1 := by
  by_cases e : a x = b y
  · rw [sw_De x y e]
    omega
  · rw [sw_Dn x y e]
    omega
theorem sw_Dqy (a b : Nat → Int32) (x y : Nat) (h1 : sw_D a b x y ≤ sw_D a b x (y + 1) + 1) (h2 : sw_D a b x (y + 1) ≤ sw_D a b x y + 1) (h3 : sw_D a b x y ≤ sw_D a b (x + 1) y + 1) (h4 : sw_D a b (x + 1) y ≤ sw_D a b x y + 1) :
    sw_D a b x (y + 1) ≤ sw_D a b (x + 1) (y + 1) + 1 ∧ sw_D a b (x + 1) (y + 1) ≤ sw_D a b x (y + 1) + 1 := by
  by_cases e : a x = b y
  · rw [sw_De x y e]
    omega
  · rw [sw_Dn x y e]
    omega
theorem sw_Dq0 (a b : Nat → Int32) : ∀ s x y : Nat, x + y < s →
    (sw_D a b x y ≤ sw_D a b x (y + 1) + 1 ∧ sw_D a b x (y + 1) ≤ sw_D a b x y + 1) ∧ (sw_D a b x y ≤ sw_D a b (x + 1) y + 1 ∧ sw_D a b (x + 1) y ≤ sw_D a b x y + 1) := by
  intro s
  induction s with
  | zero => intro x y h; omega
  | succ s ih =>
    intro x y h
    constructor
    · cases x with
      | zero => rw [sw_D0, sw_D0]; omega
      | succ x =>
        have q := ih x y (by omega)
        exact sw_Dqx a b x y q.1.1 q.1.2 q.2.1 q.2.2
    · cases y with
      | zero => rw [sw_Dz, sw_Dz]; omega
      | succ y =>
        have q := ih x y (by omega)
        exact sw_Dqy a b x y q.1.1 q.1.2 q.2.1 q.2.2
theorem sw_Db (a b : Nat → Int32) (x y : Nat) : sw_D a b x y ≤ x + y := by
  induction x with
  | zero => rw [sw_D0]; omega
  | succ x ih =>
    have := (sw_Dq0 a b (x + y + 1) x y (by omega)).2.2
    omega
/-- the reference's step where the letters are the same: no smaller way by the two sides -/
theorem sw_Dre {a b : Nat → Int32} (x y : Nat) (h : a x = b y) : sw_D a b (x + 1) (y + 1) = min (sw_D a b x y + 0) (min (sw_D a b x (y + 1)) (sw_D a b (x + 1) y) + 1) := by
  have q := sw_Dq0 a b (x + y + 1) x y (by omega)
  rw [sw_De x y h]
  omega
theorem sw_Drn {a b : Nat → Int32} (x y : Nat) (h : ¬ a x = b y) : sw_D a b (x + 1) (y + 1) = min (sw_D a b x y + 1) (min (sw_D a b x (y + 1)) (sw_D a b (x + 1) y) + 1) := by
  rw [sw_Dn x y h]
  omega
