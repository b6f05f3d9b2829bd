/-! the answers as numbers of the two words -/
/-- COMMON of k letters of A from s and j letters of B from t, B read round -/
def sw_C (a b : Nat → Int32) (n s k t j : Nat) : Nat := sw_L (fun x => a (s + x)) (fun y => b ((t + y) % n)) k j
/-- CHANGES of k letters of A from s and j letters of B from t -/
def sw_E (a b : Nat → Int32) (s k t j : Nat) : Nat := sw_D (fun x => a (s + x)) (fun y => b (t + y)) k j
theorem sw_Cb (a b : Nat → Int32) (n s k t j : Nat) : sw_C a b n s k t j ≤ k := sw_Lb _ _ k j
theorem sw_Eb (a b : Nat → Int32) (s k t j : Nat) : sw_E a b s k t j ≤ k + j := sw_Db _ _ k j
theorem sw_C0 (a b : Nat → Int32) (n s k t : Nat) : sw_C a b n s k t 0 = 0 := sw_Lz _ _ k
theorem sw_E0 (a b : Nat → Int32) (s k t : Nat) : sw_E a b s k t 0 = k := sw_Dz _ _ k
theorem sw_Cw (a b : Nat → Int32) (n s k t j : Nat) : sw_C a b n s k t j ≤ sw_C a b n s k t (j + 1) := sw_Lw _ _ k j
theorem sw_Csh (a b : Nat → Int32) (n s k t j : Nat) : sw_C a b n s k (t + 1) j ≤ sw_C a b n s k t (j + 1) := by
  have e : (fun y => b ((t + 1 + y) % n)) = (fun z => (fun y => b ((t + y) % n)) (z + 1)) := by
    funext y
    show b ((t + 1 + y) % n) = b ((t + (y + 1)) % n)
    rw [show t + 1 + y = t + (y + 1) by omega]
  unfold sw_C
  rw [e]
  exact sw_Lsh (fun x => a (s + x)) (fun y => b ((t + y) % n)) k j
/-- the stretch (i, j) against the whole of A -/
def sw_F (a b : Nat → Int32) (n m i j : Nat) : Nat := sw_C a b n 0 m i (j - i)
theorem sw_F1 (a b : Nat → Int32) (n m : Nat) (i j : Nat) (h : i ≤ j) : sw_F a b n m i j ≤ sw_F a b n m i (j + 1) := by
  unfold sw_F
  rw [show j + 1 - i = (j - i) + 1 by omega]
  exact sw_Cw a b n 0 m i (j - i)
theorem sw_F2 (a b : Nat → Int32) (n m : Nat) (i j : Nat) (h : i < j) : sw_F a b n m (i + 1) j ≤ sw_F a b n m i j := by
  unfold sw_F
  rw [show j - i = (j - (i + 1)) + 1 by omega]
  exact sw_Csh a b n 0 m i (j - (i + 1))
theorem sw_mono1 (F : Nat → Nat → Nat) (h1 : ∀ i j, i ≤ j → F i j ≤ F i (j + 1)) (k l : Nat) (hk : k ≤ l) : ∀ d : Nat, F k l ≤ F k (l + d) := by
  intro d
  induction d with
  | zero => exact Nat.le_refl _
  | succ d ih => exact Nat.le_trans ih (h1 k (l + d) (by omega))
theorem sw_mono2 (F : Nat → Nat → Nat) (h2 : ∀ i j, i < j → F (i + 1) j ≤ F i j) (i j : Nat) : ∀ d : Nat, i + d ≤ j → F (i + d) j ≤ F i j := by
  intro d
  induction d with
  | zero => intro _; exact Nat.le_refl _
  | succ d ih => intro h; exact Nat.le_trans (h2 (i + d) j (by omega)) (ih (by omega))
theorem sw_mono (F : Nat → Nat → Nat) (h1 : ∀ i j, i ≤ j → F i j ≤ F i (j + 1)) (h2 : ∀ i j, i < j → F (i + 1) j ≤ F i j) (i j k l : Nat) (a : i ≤ k) (b : k ≤ l) (c : l ≤ j) : F k l ≤ F i j := by
  have p := sw_mono1 F h1 k l b (j - l)
  rw [show l + (j - l) = j by omega] at p
  have q := sw_mono2 F h2 i j (k - i) (by omega)
  rw [show i + (k - i) = k by omega] at q
  exact Nat.le_trans p q
/-- greater than every other stretch inside -/
def sw_T (F : Nat → Nat → Nat) (i j : Nat) : Prop := ∀ k l, i ≤ k → k ≤ l → l ≤ j → (k ≠ i ∨ l ≠ j) → F k l < F i j
def sw_tB (F : Nat → Nat → Nat) (i j : Nat) : Bool := decide (i = j) || (decide (F (i + 1) j < F i j) && decide (F i (j - 1) < F i j))
theorem sw_tT (F : Nat → Nat → Nat) (h1 : ∀ i j, i ≤ j → F i j ≤ F i (j + 1)) (h2 : ∀ i j, i < j → F (i + 1) j ≤ F i j) (i j : Nat) (h : i ≤ j) : sw_tB F i j = true ↔ sw_T F i j := by
  unfold sw_tB
  rw [Bool.or_eq_true, Bool.and_eq_true, decide_eq_true_eq, decide_eq_true_eq, decide_eq_true_eq]
  constructor
  · intro hh k l hk hkl hl ho
    rcases hh with e | ⟨p, q⟩
    · omega
    · by_cases c : k = i
      · subst c
        exact Nat.lt_of_le_of_lt (sw_mono F h1 h2 k (j - 1) k l (Nat.le_refl _) hkl (by omega)) q
      · exact Nat.lt_of_le_of_lt (sw_mono F h1 h2 (i + 1) j k l (by omega) hkl hl) p
  · intro t
    by_cases e : i = j
    · exact Or.inl e
    · exact Or.inr ⟨t (i + 1) j (by omega) (by omega) (Nat.le_refl _) (Or.inl (by omega)), t i (j - 1) (Nat.le_refl _) (by omega) (by omega) (Or.inr (by omega))⟩
/-- of the pairs i ≤ j ≤ n with the least f the one that comes first -/
def sw_First (f : Nat → Nat → Nat) (n p q : Nat) : Prop := p ≤ q ∧ q ≤ n ∧ (∀ i j, i ≤ j → j ≤ n → f p q ≤ f i j) ∧ (∀ i j, i ≤ j → j ≤ n → (i < p ∨ (i = p ∧ j < q)) → f p q < f i j)
theorem sw_first (f : Nat → Nat → Nat) (n : Nat) : ∃ p q, sw_First f n p q := by
  obtain ⟨v, ⟨i0, j0, a0, b0, e0⟩, hv⟩ := pk_least (fun v => ∃ i j, i ≤ j ∧ j ≤ n ∧ f i j = v) ⟨f 0 0, 0, 0, Nat.le_refl 0, Nat.zero_le n, rfl⟩
  obtain ⟨p, ⟨j1, a1, b1, e1⟩, hp⟩ := pk_least (fun i => ∃ j, i ≤ j ∧ j ≤ n ∧ f i j = v) ⟨i0, j0, a0, b0, e0⟩
  obtain ⟨q, ⟨a2, b2, e2⟩, hq⟩ := pk_least (fun j => p ≤ j ∧ j ≤ n ∧ f p j = v) ⟨j1, a1, b1, e1⟩
  have least : ∀ i j, i ≤ j → j ≤ n → v ≤ f i j := by
    intro i j h1 h2
    exact Nat.not_lt.mp (fun c => hv (f i j) c ⟨i, j, h1, h2, rfl⟩)
  refine ⟨p, q, a2, b2, ?_, ?_⟩
  · intro i j h1 h2
    rw [e2]
    exact least i j h1 h2
  · intro i j h1 h2 h3
    rw [e2]
    refine Nat.lt_of_le_of_ne (least i j h1 h2) ?_
    intro e
    rcases h3 with h3 | ⟨h3, h4⟩
    · exact hp i h3 ⟨j, h1, h2, e.symm⟩
    · subst h3
      exact hq j h4 ⟨h1, h2, e.symm⟩
/-- the greatest of f 0 .. f (c - 1), 0 if there is none -/
def sw_G (f : Nat → Nat) : Nat → Nat
  | 0 => 0
  | c + 1 => max (sw_G f c) (f c)
theorem sw_Gb (f : Nat → Nat) (B : Nat) (h : ∀ i, f i ≤ B) (c : Nat) : sw_G f c ≤ B := by
  induction c with
  | zero => exact Nat.zero_le _
  | succ c ih =>
    have := h c
    show max (sw_G f c) (f c) ≤ B
    omega
theorem sw_G0 (f : Nat → Nat) (h : ∀ i, f i = 0) (c : Nat) : sw_G f c = 0 := by
  have := sw_Gb f 0 (fun i => Nat.le_of_eq (h i)) c
  omega
/-- a sum over j from i on, c of them; and the sum of these over i, each up to n -/
def sw_in (g : Nat → Nat) (i : Nat) : Nat → Nat
  | 0 => 0
  | c + 1 => sw_in g i c + g (i + c)
def sw_out (g : Nat → Nat → Nat) (n : Nat) : Nat → Nat
  | 0 => 0
  | i + 1 => sw_out g n i + sw_in (g i) i (n + 1 - i)
/-- the first w from w0 on, among d, with g w not below k -/
def sw_sh (g : Nat → Nat) (k : Int32) : Nat → Nat → Int32
  | 0 => fun _ => -4
  | d + 1 => fun w => if nI (g w) < k then sw_sh g k d (w + 1) else nI w
theorem sw_sh_t {g : Nat → Nat} {k : Int32} {d w : Nat} (c : nI (g w) < k) : sw_sh g k (d + 1) w = sw_sh g k d (w + 1) := if_pos c
theorem sw_sh_f {g : Nat → Nat} {k : Int32} {d w : Nat} (c : ¬ nI (g w) < k) : sw_sh g k (d + 1) w = nI w := if_neg c
