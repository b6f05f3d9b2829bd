section
/-! rows taken from the kit to paste: stores, nI arithmetic, branches by naturals, least numbers -/
theorem pk_us {f : Nat → Int32} {k : Nat} {x : Int32} : upd f k x k = x := if_pos rfl
theorem pk_un {f : Nat → Int32} {k j : Nat} {x : Int32} (h : j ≠ k) : upd f k x j = f j := if_neg h
theorem pk_sub {a b : Nat} (h : b ≤ a) : nI a - nI b = nI (a - b) := by
  obtain ⟨c, rfl⟩ : ∃ c, a = c + b := ⟨a - b, by omega⟩
  rw [← nI_add, Int32.add_sub_cancel, Nat.add_sub_cancel]
theorem pk_m1 (n : Nat) : nI (n + 1) + (-1) = nI n := by
  rw [← nI_1, Int32.add_assoc, show (1 : Int32) + (-1) = 0 from rfl, Int32.add_zero]
theorem pk_mul (a b : Nat) : nI a * nI b = nI (a * b) := (Int32.ofNat_mul a b).symm
theorem pk_div {a d : Nat} (ha : a < 2 ^ 31) (h0 : 0 < d) (hd : d < 2 ^ 31) : nI a / nI d = nI (a / d) := by
  apply Int32.toInt_inj.mp
  rw [lg_idiv_nonneg (by rw [nI_toInt ha]; omega) (by rw [nI_toInt hd]; omega), nI_toInt ha, nI_toInt hd, nI_toInt (Nat.lt_of_le_of_lt (Nat.div_le_self a d) ha)]
  first | rfl | exact (Int.natCast_ediv _ _).symm
theorem pk_rem {a d : Nat} (ha : a < 2 ^ 31) (h0 : 0 < d) (hd : d < 2 ^ 31) : nI a - nI a / nI d * nI d = nI (a % d) := by
  rw [pk_div ha h0 hd, pk_mul, pk_sub (Nat.div_mul_le_self a d)]
  exact congrArg nI (by have := Nat.div_add_mod' a d; omega)
theorem pk_ix (x : Int32) {n : Nat} (hn : n < 2 ^ 31) : x < 0 ∨ nI n ≤ x ∨ ∃ j : Nat, j < n ∧ x = nI j := by
  by_cases h : x < 0
  · exact Or.inl h
  · obtain ⟨j, hj, rfl⟩ := nI_of h
    by_cases h2 : j < n
    · exact Or.inr (Or.inr ⟨j, h2, rfl⟩)
    · exact Or.inr (Or.inl (nI_le (by omega) hj))
theorem pk_le {x y : Int32} {A B : Prop} (a b : Nat) (f : a ≤ b → A) (g : b < a → B) (hx : x = nI a := by rfl) (hy : y = nI b := by rfl) (ha : a < 2 ^ 31 := by omega) (hb : b < 2 ^ 31 := by omega) : (x ≤ y → A) ∧ (¬ x ≤ y → B) := by
  subst hx hy
  rw [nI_leI ha hb]
  exact ⟨f, fun z => g (by omega)⟩
theorem pk_lt {x y : Int32} {A B : Prop} (a b : Nat) (f : a < b → A) (g : b ≤ a → B) (hx : x = nI a := by rfl) (hy : y = nI b := by rfl) (ha : a < 2 ^ 31 := by omega) (hb : b < 2 ^ 31 := by omega) : (x < y → A) ∧ (¬ x < y → B) := by
  subst hx hy
  rw [nI_ltI ha hb]
  exact ⟨f, fun z => g (by omega)⟩
theorem pk_eq {x y : Int32} {A B : Prop} (a b : Nat) (f : a = b → A) (g : a ≠ b → B) (hx : x = nI a := by rfl) (hy : y = nI b := by rfl) (ha : a < 2 ^ 31 := by omega) (hb : b < 2 ^ 31 := by omega) : (x = y → A) ∧ (¬ x = y → B) := by
  subst hx hy
  rw [nI_eq ha hb]
  exact ⟨f, g⟩
theorem pk_in {x : Int32} (n N : Nat) (h : n < N) (hx : x = nI n := by rfl) (hN : N < 2 ^ 31 := by omega) : vp_in x N := by
  subst hx
  exact vp_in_nI h hN
theorem pk_cl {x : Int32} (n : Nat) (hx : x = nI n := by rfl) (h : n < 2 ^ 31 := by omega) : x.toNatClampNeg = n := by
  subst hx
  exact nI_clamp h
theorem pk_loop {σ : Type} (W : Nat → Nat → σ → Prop) (I : Nat → σ → Prop) (e i0 : Nat) (s : σ) (hi : i0 ≤ e) (h0 : I i0 s) (hx : ∀ n s, I e s → W (n + 1) e s)
    (hs : ∀ n i s, i < e → I i s → (∀ s', I (i + 1) s' → W n (i + 1) s') → W (n + 1) i s) : ∃ n, W n i0 s :=
  ⟨e + 1, loop_i W I e hx hs (e + 1) i0 s hi (by omega) h0⟩
theorem pk_least (P : Nat → Prop) (h : ∃ k, P k) : ∃ k, P k ∧ ∀ j, j < k → ¬ P j := by
  obtain ⟨k, hk⟩ := h
  induction k using Nat.strongRecOn with
  | ind k ih =>
    by_cases e : ∃ j, j < k ∧ P j
    · obtain ⟨j, hj, pj⟩ := e
      exact ih j hj pj
    · exact ⟨k, hk, fun j hj pj => e ⟨j, hj, pj⟩⟩
end
section
/-! the two tables, row by row; a: letters of A from the begin of the stretch, b: letters of B alike -/
def sw_lrow (c : Int32) (b : Nat → Int32) (p : Nat → Nat) : Nat → Nat
  | 0 => 0
  | y + 1 => if c = b y then p y + 1 else max (p (y + 1)) (sw_lrow c b p y)
def sw_L (a b : Nat → Int32) : Nat → Nat → Nat
  | 0 => fun _ => 0
  | x + 1 => sw_lrow (a x) b (sw_L a b x)
theorem sw_L0 (a b : Nat → Int32) (y : Nat) : sw_L a b 0 y = 0 := rfl
theorem sw_Lz (a b : Nat → Int32) (x : Nat) : sw_L a b x 0 = 0 := by cases x <;> rfl
theorem sw_Le {a b : Nat → Int32} (x y : Nat) (h : a x = b y) : sw_L a b (x + 1) (y + 1) = sw_L a b x y + 1 := if_pos h
theorem sw_Ln {a b : Nat → Int32} (x y : Nat) (h : ¬ a x = b y) : sw_L a b (x + 1) (y + 1) = max (sw_L a b x (y + 1)) (sw_L a b (x + 1) y) := if_neg h
theorem sw_Lqx (a b : Nat → Int32) (x y : Nat) (h1 : sw_L a b x y ≤ sw_L a b x (y + 1)) (h2 : sw_L a b x (y + 1) ≤ sw_L a b x y + 1) (h3 : sw_L a b x y ≤ sw_L a b (x + 1) y) (h4 : sw_L a b (x + 1) y ≤ sw_L a b x y + 1) :
    sw_L a b (x + 1) y ≤ sw_L a b (x + 1) (y + 1) ∧ sw_L a b (x + 1) (y + 1) ≤ sw_L a b (x + 1) y + 1 := by
  by_cases e : a x = b y
  · rw [sw_Le x y e]
    omega
  · rw [sw_Ln x y e]
    omega
theorem sw_Lqy (a b : Nat → Int32) (x y : Nat) (h1 : sw_L a b x y ≤ sw_L a b x (y + 1)) (h2 : sw_L a b x (y + 1) ≤ sw_L a b x y + 1) (h3 : sw_L a b x y ≤ sw_L a b (x + 1) y) (h4 : sw_L a b (x + 1) y ≤ sw_L a b x y + 1) :
    sw_L a b x (y + 1) ≤ sw_L a b (x + 1) (y + 1) ∧ sw_L a b (x + 1) (y + 1) ≤ sw_L a b x (y + 1) + 1 := by
  by_cases e : a x = b y
  · rw [sw_Le x y e]
    omega
  · rw [sw_Ln x y e]
    omega
theorem sw_Lq0 (a b : Nat → Int32) : ∀ s x y : Nat, x + y < s →
    (sw_L a b x y ≤ sw_L a b x (y + 1) ∧ sw_L a b x (y + 1) ≤ sw_L a b x y + 1) ∧ (sw_L a b x y ≤ sw_L a b (x + 1) y ∧ sw_L a b (x + 1) y ≤ sw_L a b x y + 1) := by
  intro s
  induction s with
  | zero => intro x y h; omega
  | succ s ih =>
    intro x y h
    constructor
    · cases x with
      | zero => exact ⟨Nat.le_refl 0, Nat.zero_le _⟩
      | succ x =>
        have q := ih x y (by omega)
        exact sw_Lqx a b x y q.1.1 q.1.2 q.2.1 q.2.2
    · cases y with
      | zero =>
        rw [sw_Lz, sw_Lz]
        exact ⟨Nat.le_refl 0, Nat.zero_le _⟩
      | succ y =>
        have q := ih x y (by omega)
        exact sw_Lqy a b x y q.1.1 q.1.2 q.2.1 q.2.2
theorem sw_Lw (a b : Nat → Int32) (x y : Nat) : sw_L a b x y ≤ sw_L a b x (y + 1) := (sw_Lq0 a b (x + y + 1) x y (by omega)).1.1
theorem sw_Lb (a b : Nat → Int32) (x y : Nat) : sw_L a b x y ≤ x := by
  induction x with
  | zero => exact Nat.le_refl 0
  | succ x ih =>
    have := (sw_Lq0 a b (x + y + 1) x y (by omega)).2.2
    omega
/-- taking the first letter off the second word makes the table no larger -/
theorem sw_Lsh (a b : Nat → Int32) : ∀ x y : Nat, sw_L a (fun z => b (z + 1)) x y ≤ sw_L a b x (y + 1) := by
  intro x
  induction x with
  | zero => intro y; exact Nat.le_refl 0
  | succ x ihx =>
    intro y
    induction y with
    | zero => rw [sw_Lz]; exact Nat.zero_le _
    | succ y ihy =>
      by_cases e : a x = b (y + 1)
      · rw [sw_Le (b := fun z => b (z + 1)) x y e, sw_Le x (y + 1) e]
        have := ihx y
        omega
      · rw [sw_Ln (b := fun z => b (z + 1)) x y e, sw_Ln x (y + 1) e]
        have := ihx (y + 1)
        omega
def sw_drow (c : Int32) (b : Nat → Int32) (p : Nat → Nat) : Nat → Nat
  | 0 => p 0 + 1
  | y + 1 => if c = b y then p y else min (min (p (y + 1)) (sw_drow c b p y)) (p y) + 1
def sw_D (a b : Nat → Int32) : Nat → Nat → Nat
  | 0 => fun y => y
  | x + 1 => sw_drow (a x) b (sw_D a b x)
theorem sw_D0 (a b : Nat → Int32) (y : Nat) : sw_D a b 0 y = y := rfl
theorem sw_Dz (a b : Nat → Int32) (x : Nat) : sw_D a b x 0 = x := by
  induction x with
  | zero => rfl
  | succ x ih => exact congrArg (· + 1) ih
theorem sw_De {a b : Nat → Int32} (x y : Nat) (h : a x = b y) : sw_D a b (x + 1) (y + 1) = sw_D a b x y := if_pos h
theorem sw_Dn {a b : Nat → Int32} (x y : Nat) (h : ¬ a x = b y) : sw_D a b (x + 1) (y + 1) = min (min (sw_D a b x (y + 1)) (sw_D a b (x + 1) y)) (sw_D a b x y) + 1 := if_neg h
theorem sw_Dqx (a b : Nat → Int32) (x y : Nat) (h1 : sw_D a b x y ≤ sw_D a b x (y + 1) + 1) (h2 : sw_D a b x (y + 1) ≤ sw_D a b x y + 1) (h3 : sw_D a b x y ≤ sw_D a b (x + 1) y + 1) (h4 : sw_D a b (x + 1) y ≤ sw_D a b x y + 1) :
    sw_D a b (x + 1) y ≤ sw_D a b (x + 1) (y + 1) + 1 ∧ sw_D a b (x + 1) (y + 1) ≤ sw_D a b (x + 1) y + 1 := by
  by_cases e : a x = b y
  · rw [sw_De x y e]
    omega
  · rw [sw_Dn x y e]
    omega
theorem sw_Dqy (a b : Nat → Int32) (x y : Nat) (h1 : sw_D a b x y ≤ sw_D a b x (y + 1) + 1) (h2 : sw_D a b x (y + 1) ≤ sw_D a b x y + 1) (h3 : sw_D a b x y ≤ sw_D a b (x + 1) y + 1) (h4 : sw_D a b (x + 1) y ≤ sw_D a b x y + 1) :
    sw_D a b x (y + 1) ≤ sw_D a b (x + 1) (y + 1) + 1 ∧ sw_D a b (x + 1) (y + 1) ≤ sw_D a b x (y + 1) + 1 := by
  by_cases e : a x = b y
  · rw [sw_De x y e]
    omega
  · rw [sw_Dn x y e]
    omega
theorem sw_Dq0 (a b : Nat → Int32) : ∀ s x y : Nat, x + y < s →
    (sw_D a b x y ≤ sw_D a b x (y + 1) + 1 ∧ sw_D a b x (y + 1) ≤ sw_D a b x y + 1) ∧ (sw_D a b x y ≤ sw_D a b (x + 1) y + 1 ∧ sw_D a b (x + 1) y ≤ sw_D a b x y + 1) := by
  intro s
  induction s with
  | zero => intro x y h; omega
  | succ s ih =>
    intro x y h
    constructor
    · cases x with
      | zero => rw [sw_D0, sw_D0]; omega
      | succ x =>
        have q := ih x y (by omega)
        exact sw_Dqx a b x y q.1.1 q.1.2 q.2.1 q.2.2
    · cases y with
      | zero => rw [sw_Dz, sw_Dz]; omega
      | succ y =>
        have q := ih x y (by omega)
        exact sw_Dqy a b x y q.1.1 q.1.2 q.2.1 q.2.2
theorem sw_Db (a b : Nat → Int32) (x y : Nat) : sw_D a b x y ≤ x + y := by
  induction x with
  | zero => rw [sw_D0]; omega
  | succ x ih =>
    have := (sw_Dq0 a b (x + y + 1) x y (by omega)).2.2
    omega
/-- the reference's step where the letters are the same: no smaller way by the two sides -/
theorem sw_Dre {a b : Nat → Int32} (x y : Nat) (h : a x = b y) : sw_D a b (x + 1) (y + 1) = min (sw_D a b x y + 0) (min (sw_D a b x (y + 1)) (sw_D a b (x + 1) y) + 1) := by
  have q := sw_Dq0 a b (x + y + 1) x y (by omega)
  rw [sw_De x y h]
  omega
theorem sw_Drn {a b : Nat → Int32} (x y : Nat) (h : ¬ a x = b y) : sw_D a b (x + 1) (y + 1) = min (sw_D a b x y + 1) (min (sw_D a b x (y + 1)) (sw_D a b (x + 1) y) + 1) := by
  rw [sw_Dn x y h]
  omega
end
section
/-! the answers as numbers of the two words -/
/-- COMMON of k letters of A from s and j letters of B from t, B read round -/
def sw_C (a b : Nat → Int32) (n s k t j : Nat) : Nat := sw_L (fun x => a (s + x)) (fun y => b ((t + y) % n)) k j
/-- CHANGES of k letters of A from s and j letters of B from t -/
def sw_E (a b : Nat → Int32) (s k t j : Nat) : Nat := sw_D (fun x => a (s + x)) (fun y => b (t + y)) k j
theorem sw_Cb (a b : Nat → Int32) (n s k t j : Nat) : sw_C a b n s k t j ≤ k := sw_Lb _ _ k j
theorem sw_Eb (a b : Nat → Int32) (s k t j : Nat) : sw_E a b s k t j ≤ k + j := sw_Db _ _ k j
theorem sw_C0 (a b : Nat → Int32) (n s k t : Nat) : sw_C a b n s k t 0 = 0 := sw_Lz _ _ k
theorem sw_E0 (a b : Nat → Int32) (s k t : Nat) : sw_E a b s k t 0 = k := sw_Dz _ _ k
theorem sw_Cw (a b : Nat → Int32) (n s k t j : Nat) : sw_C a b n s k t j ≤ sw_C a b n s k t (j + 1) := sw_Lw _ _ k j
theorem sw_Csh (a b : Nat → Int32) (n s k t j : Nat) : sw_C a b n s k (t + 1) j ≤ sw_C a b n s k t (j + 1) := by
  have e : (fun y => b ((t + 1 + y) % n)) = (fun z => (fun y => b ((t + y) % n)) (z + 1)) := by
    funext y
    show b ((t + 1 + y) % n) = b ((t + (y + 1)) % n)
    rw [show t + 1 + y = t + (y + 1) by omega]
  unfold sw_C
  rw [e]
  exact sw_Lsh (fun x => a (s + x)) (fun y => b ((t + y) % n)) k j
/-- the stretch (i, j) against the whole of A -/
def sw_F (a b : Nat → Int32) (n m i j : Nat) : Nat := sw_C a b n 0 m i (j - i)
theorem sw_F1 (a b : Nat → Int32) (n m : Nat) (i j : Nat) (h : i ≤ j) : sw_F a b n m i j ≤ sw_F a b n m i (j + 1) := by
  unfold sw_F
  rw [show j + 1 - i = (j - i) + 1 by omega]
  exact sw_Cw a b n 0 m i (j - i)
theorem sw_F2 (a b : Nat → Int32) (n m : Nat) (i j : Nat) (h : i < j) : sw_F a b n m (i + 1) j ≤ sw_F a b n m i j := by
  unfold sw_F
  rw [show j - i = (j - (i + 1)) + 1 by omega]
  exact sw_Csh a b n 0 m i (j - (i + 1))
theorem sw_mono1 (F : Nat → Nat → Nat) (h1 : ∀ i j, i ≤ j → F i j ≤ F i (j + 1)) (k l : Nat) (hk : k ≤ l) : ∀ d : Nat, F k l ≤ F k (l + d) := by
  intro d
  induction d with
  | zero => exact Nat.le_refl _
  | succ d ih => exact Nat.le_trans ih (h1 k (l + d) (by omega))
theorem sw_mono2 (F : Nat → Nat → Nat) (h2 : ∀ i j, i < j → F (i + 1) j ≤ F i j) (i j : Nat) : ∀ d : Nat, i + d ≤ j → F (i + d) j ≤ F i j := by
  intro d
  induction d with
  | zero => intro _; exact Nat.le_refl _
  | succ d ih => intro h; exact Nat.le_trans (h2 (i + d) j (by omega)) (ih (by omega))
theorem sw_mono (F : Nat → Nat → Nat) (h1 : ∀ i j, i ≤ j → F i j ≤ F i (j + 1)) (h2 : ∀ i j, i < j → F (i + 1) j ≤ F i j) (i j k l : Nat) (a : i ≤ k) (b : k ≤ l) (c : l ≤ j) : F k l ≤ F i j := by
  have p := sw_mono1 F h1 k l b (j - l)
  rw [show l + (j - l) = j by omega] at p
  have q := sw_mono2 F h2 i j (k - i) (by omega)
  rw [show i + (k - i) = k by omega] at q
  exact Nat.le_trans p q
/-- greater than every other stretch inside -/
def sw_T (F : Nat → Nat → Nat) (i j : Nat) : Prop := ∀ k l, i ≤ k → k ≤ l → l ≤ j → (k ≠ i ∨ l ≠ j) → F k l < F i j
def sw_tB (F : Nat → Nat → Nat) (i j : Nat) : Bool := decide (i = j) || (decide (F (i + 1) j < F i j) && decide (F i (j - 1) < F i j))
theorem sw_tT (F : Nat → Nat → Nat) (h1 : ∀ i j, i ≤ j → F i j ≤ F i (j + 1)) (h2 : ∀ i j, i < j → F (i + 1) j ≤ F i j) (i j : Nat) (h : i ≤ j) : sw_tB F i j = true ↔ sw_T F i j := by
  unfold sw_tB
  rw [Bool.or_eq_true, Bool.and_eq_true, decide_eq_true_eq, decide_eq_true_eq, decide_eq_true_eq]
  constructor
  · intro hh k l hk hkl hl ho
    rcases hh with e | ⟨p, q⟩
    · omega
    · by_cases c : k = i
      · subst c
        exact Nat.lt_of_le_of_lt (sw_mono F h1 h2 k (j - 1) k l (Nat.le_refl _) hkl (by omega)) q
      · exact Nat.lt_of_le_of_lt (sw_mono F h1 h2 (i + 1) j k l (by omega) hkl hl) p
  · intro t
    by_cases e : i = j
    · exact Or.inl e
    · exact Or.inr ⟨t (i + 1) j (by omega) (by omega) (Nat.le_refl _) (Or.inl (by omega)), t i (j - 1) (Nat.le_refl _) (by omega) (by omega) (Or.inr (by omega))⟩
/-- of the pairs i ≤ j ≤ n with the least f the one that comes first -/
def sw_First (f : Nat → Nat → Nat) (n p q : Nat) : Prop := p ≤ q ∧ q ≤ n ∧ (∀ i j, i ≤ j → j ≤ n → f p q ≤ f i j) ∧ (∀ i j, i ≤ j → j ≤ n → (i < p ∨ (i = p ∧ j < q)) → f p q < f i j)
theorem sw_first (f : Nat → Nat → Nat) (n : Nat) : ∃ p q, sw_First f n p q := by
  obtain ⟨v, ⟨i0, j0, a0, b0, e0⟩, hv⟩ := pk_least (fun v => ∃ i j, i ≤ j ∧ j ≤ n ∧ f i j = v) ⟨f 0 0, 0, 0, Nat.le_refl 0, Nat.zero_le n, rfl⟩
  obtain ⟨p, ⟨j1, a1, b1, e1⟩, hp⟩ := pk_least (fun i => ∃ j, i ≤ j ∧ j ≤ n ∧ f i j = v) ⟨i0, j0, a0, b0, e0⟩
  obtain ⟨q, ⟨a2, b2, e2⟩, hq⟩ := pk_least (fun j => p ≤ j ∧ j ≤ n ∧ f p j = v) ⟨j1, a1, b1, e1⟩
  have least : ∀ i j, i ≤ j → j ≤ n → v ≤ f i j := by
    intro i j h1 h2
    exact Nat.not_lt.mp (fun c => hv (f i j) c ⟨i, j, h1, h2, rfl⟩)
  refine ⟨p, q, a2, b2, ?_, ?_⟩
  · intro i j h1 h2
    rw [e2]
    exact least i j h1 h2
  · intro i j h1 h2 h3
    rw [e2]
    refine Nat.lt_of_le_of_ne (least i j h1 h2) ?_
    intro e
    rcases h3 with h3 | ⟨h3, h4⟩
    · exact hp i h3 ⟨j, h1, h2, e.symm⟩
    · subst h3
      exact hq j h4 ⟨h1, h2, e.symm⟩
/-- the greatest of f 0 .. f (c - 1), 0 if there is none -/
def sw_G (f : Nat → Nat) : Nat → Nat
  | 0 => 0
  | c + 1 => max (sw_G f c) (f c)
theorem sw_Gb (f : Nat → Nat) (B : Nat) (h : ∀ i, f i ≤ B) (c : Nat) : sw_G f c ≤ B := by
  induction c with
  | zero => exact Nat.zero_le _
  | succ c ih =>
    have := h c
    show max (sw_G f c) (f c) ≤ B
    omega
theorem sw_G0 (f : Nat → Nat) (h : ∀ i, f i = 0) (c : Nat) : sw_G f c = 0 := by
  have := sw_Gb f 0 (fun i => Nat.le_of_eq (h i)) c
  omega
/-- a sum over j from i on, c of them; and the sum of these over i, each up to n -/
def sw_in (g : Nat → Nat) (i : Nat) : Nat → Nat
  | 0 => 0
  | c + 1 => sw_in g i c + g (i + c)
def sw_out (g : Nat → Nat → Nat) (n : Nat) : Nat → Nat
  | 0 => 0
  | i + 1 => sw_out g n i + sw_in (g i) i (n + 1 - i)
/-- the first w from w0 on, among d, with g w not below k -/
def sw_sh (g : Nat → Nat) (k : Int32) : Nat → Nat → Int32
  | 0 => fun _ => -4
  | d + 1 => fun w => if nI (g w) < k then sw_sh g k d (w + 1) else nI w
theorem sw_sh_t {g : Nat → Nat} {k : Int32} {d w : Nat} (c : nI (g w) < k) : sw_sh g k (d + 1) w = sw_sh g k d (w + 1) := if_pos c
theorem sw_sh_f {g : Nat → Nat} {k : Int32} {d w : Nat} (c : ¬ nI (g w) < k) : sw_sh g k (d + 1) w = nI w := if_neg c
end
section
/-! how a table is filled cell by cell (the reference: 15 cells a row), and how one row is overwritten from left to right (the class) -/
def sw_Tab (L : Nat → Nat → Nat) (tab : Nat → Int32) (x y j : Nat) : Prop := ∀ p q, q ≤ j → (p < x ∨ (p = x ∧ q < y)) → tab (p * 15 + q) = nI (L p q)
theorem sw_Tab0 (L : Nat → Nat → Nat) (tab : Nat → Int32) (j : Nat) : sw_Tab L tab 0 0 j := by
  intro p q _ h
  omega
theorem sw_TabS {L : Nat → Nat → Nat} {tab : Nat → Int32} {x y j : Nat} {v : Int32} (H : sw_Tab L tab x y j) (hj : j ≤ 14) (hy : y ≤ j) (e : v = nI (L x y)) : sw_Tab L (upd tab (x * 15 + y) v) x (y + 1) j := by
  intro p q hq h
  by_cases c : p * 15 + q = x * 15 + y
  · obtain ⟨rfl, rfl⟩ : p = x ∧ q = y := ⟨by omega, by omega⟩
    rw [pk_us]
    exact e
  · rw [pk_un c]
    refine H p q hq ?_
    rcases h with h | ⟨h1, h2⟩
    · exact Or.inl h
    · subst h1
      exact Or.inr ⟨rfl, by omega⟩
theorem sw_TabR {L : Nat → Nat → Nat} {tab : Nat → Int32} {x j : Nat} (H : sw_Tab L tab x (j + 1) j) : sw_Tab L tab (x + 1) 0 j := by
  intro p q hq h
  exact H p q hq (by omega)
def sw_Row (L : Nat → Nat → Nat) (row : Nat → Int32) (x y w : Nat) : Prop := (∀ q, q < y → row q = nI (L (x + 1) q)) ∧ (∀ q, y ≤ q → q ≤ w → row q = nI (L x q))
theorem sw_RowS {L : Nat → Nat → Nat} {row : Nat → Int32} {x y w : Nat} {v : Int32} (H : sw_Row L row x y w) (e : v = nI (L (x + 1) y)) : sw_Row L (upd row y v) x (y + 1) w := by
  constructor
  · intro q hq
    by_cases c : q = y
    · subst c
      rw [pk_us]
      exact e
    · rw [pk_un c]
      exact H.1 q (by omega)
  · intro q h1 h2
    rw [pk_un (by omega)]
    exact H.2 q (by omega) h2
def sw_Full (L : Nat → Nat → Nat) (row : Nat → Int32) (x w : Nat) : Prop := ∀ q, q ≤ w → row q = nI (L x q)
theorem sw_RowE {L : Nat → Nat → Nat} {row : Nat → Int32} {x w : Nat} (H : sw_Row L row x (w + 1) w) : sw_Full L row (x + 1) w := fun q hq => H.1 q (by omega)
theorem sw_RowB {L : Nat → Nat → Nat} {row : Nat → Int32} {x w : Nat} (H : sw_Full L row x w) (e : row 0 = nI (L (x + 1) 0)) : sw_Row L row x 1 w := by
  constructor
  · intro q hq
    obtain rfl : q = 0 := by omega
    exact e
  · intro q _ h2
    exact H q h2
/-- the first row, written from left to right -/
theorem sw_FillS {f : Nat → Nat} {row : Nat → Int32} {y : Nat} {v : Int32} (H : ∀ q, q < y → row q = nI (f q)) (e : v = nI (f y)) : ∀ q, q < y + 1 → upd row y v q = nI (f q) := by
  intro q hq
  by_cases c : q = y
  · subst c
    rw [pk_us]
    exact e
  · rw [pk_un c]
    exact H q (by omega)
theorem sw_max {P : Int32 → Prop} {p q : Nat} (hp : p < 2 ^ 31) (hq : q < 2 ^ 31) (h : P (nI (max p q))) : (nI p ≤ nI q → P (nI q)) ∧ (¬ nI p ≤ nI q → P (nI p)) := by
  refine pk_le p q (fun c => ?_) (fun c => ?_)
  · rw [Nat.max_eq_right c] at h
    exact h
  · rw [Nat.max_eq_left (Nat.le_of_lt c)] at h
    exact h
theorem sw_min {P : Int32 → Prop} {p q : Nat} (hp : p < 2 ^ 31) (hq : q < 2 ^ 31) (h : P (nI (min p q))) : (nI q ≤ nI p → P (nI q)) ∧ (¬ nI q ≤ nI p → P (nI p)) := by
  refine pk_le q p (fun c => ?_) (fun c => ?_)
  · rw [Nat.min_eq_right c] at h
    exact h
  · rw [Nat.min_eq_left (Nat.le_of_lt c)] at h
    exact h
end
section
/-! the class: letterB, larger, smaller, common, changes -/
theorem sw_xlet {post : Int32 → Prop} {m : Int32} {n p : Nat} {a b row : Nat → Int32} (hn : n ≤ 14) (hp : p < n + n) (h : post (b (p % n))) : wpX_letterB post (m, nI n, a, b, row) (nI p) := by
  unfold wpX_letterB
  dsimp only
  refine pk_le n p (fun c => ?_) (fun c => ?_)
  · rw [pk_sub c, nI_clamp (by omega)]
    refine ⟨vp_in_nI (by omega) (by omega), ?_⟩
    rw [Nat.mod_eq_sub_mod c, Nat.mod_eq_of_lt (by omega)] at h
    exact h
  · rw [nI_clamp (by omega)]
    refine ⟨vp_in_nI (by omega) (by omega), ?_⟩
    rw [Nat.mod_eq_of_lt c] at h
    exact h
theorem sw_xlarger {post : Int32 → Prop} (p q : Nat) (hp : p < 2 ^ 31) (hq : q < 2 ^ 31) (h : post (nI (max p q))) : wpX_larger post (nI p) (nI q) := sw_max hp hq h
theorem sw_xsmaller {post : Int32 → Prop} (p q : Nat) (hp : p < 2 ^ 31) (hq : q < 2 ^ 31) (h : post (nI (min p q))) : wpX_smaller post (nI p) (nI q) := sw_min hp hq h
theorem sw_pl (t y : Nat) : nI t + nI (y + 1) - 1 = nI (t + y) := by
  rw [nI_add]
  exact nI_pred (t + y)
theorem sw_xc45 {post : Int32 → SX → Prop} {J : Int32 → (Nat → Int32) → (Nat → Int32) → (Nat → Int32) → Prop} {x2 m : Int32} {a b A B : Nat → Int32} {n s t w i : Nat} (hn : n ≤ 14) (hw : w ≤ n) (ht : w = 0 ∨ t < n) (hs : s + i < 10)
    (hA : a (s + i) = A i) (hB : ∀ y, y < w → b ((t + y) % n) = B y)
    (K : ∀ row, sw_Full (sw_L A B) row (i + 1) w → J (nI (s + i + 1)) a b row) :
    ∀ (d f y : Nat) (row : Nat → Int32) (c : Int32), y + 1 + d = w + 1 → d < f → sw_Row (sw_L A B) row i (y + 1) w → c = nI (sw_L A B i y) →
      wX_common_45 post J x2 (nI t) (nI w) (nI (s + i)) m (nI n) f c (nI (y + 1)) a b row := by
  intro d
  induction d with
  | zero =>
    intro f y row c hy hf hR hc
    obtain ⟨f, rfl⟩ : ∃ g, f = g + 1 := ⟨f - 1, by omega⟩
    obtain rfl : y = w := by omega
    exact pk_lt y (y + 1) (fun _ => nm_r (nI_1 (s + i)) (K row (sw_RowE hR))) (fun h => absurd h (by omega))
  | succ d ih =>
    intro f y row c hy hf hR hc
    obtain ⟨f, rfl⟩ : ∃ g, f = g + 1 := ⟨f - 1, by omega⟩
    have hyw : y + 1 ≤ w := by omega
    have htn : t < n := by omega
    have ex : (nI (s + i)).toNatClampNeg = s + i := nI_clamp (by omega)
    have ey : (nI (y + 1)).toNatClampNeg = y + 1 := nI_clamp (by omega)
    have b1 := sw_Lb A B i (y + 1)
    have b2 := sw_Lb A B (i + 1) y
    have vy : vp_in (nI (y + 1)) 15 := vp_in_nI (by omega) (by omega)
    refine pk_lt w (y + 1) (fun h => absurd h (by omega)) (fun _ => ⟨vy, nm_r (e' := nI (sw_L A B i (y + 1))) ?_ ⟨vp_in_nI hs (by omega), ?_⟩⟩)
    · rw [ey]
      exact hR.2 (y + 1) (Nat.le_refl _) hyw
    · rw [sw_pl t y]
      refine sw_xlet hn (by omega) ?_
      rw [hB y (by omega), ex, hA, ey]
      by_cases q : A i = B y
      · refine br_t q ⟨vy, nm_e (nm_r (nI_1 (y + 1)) ?_)⟩
        refine ih f (y + 1) _ _ (by omega) (by omega) (sw_RowS hR ?_) rfl
        rw [hc, nI_1, sw_Le i y q]
      · refine br_f q ⟨?_, ?_⟩
        · rw [nI_pred]
          exact vp_in_nI (by omega) (by omega)
        · rw [nI_pred, nI_clamp (show y < 2 ^ 31 by omega), hR.1 y (by omega)]
          refine sw_xlarger _ _ (by omega) (by omega) ⟨vy, nm_e (nm_r (nI_1 (y + 1)) ?_)⟩
          refine ih f (y + 1) _ _ (by omega) (by omega) (sw_RowS hR ?_) rfl
          rw [sw_Ln i y q]
theorem sw_xc33 {post : Int32 → SX → Prop} {m : Int32} {a b A B : Nat → Int32} {n s k t w : Nat} (hn : n ≤ 14) (hw : w ≤ n) (ht : w = 0 ∨ t < n) (hs : s + k ≤ 10)
    (hA : ∀ i, i < k → a (s + i) = A i) (hB : ∀ y, y < w → b ((t + y) % n) = B y)
    (K : ∀ row, post (nI (sw_L A B k w)) (m, nI n, a, b, row)) :
    ∀ (d f i : Nat) (row : Nat → Int32), i + d = k → d < f → sw_Full (sw_L A B) row i w →
      wX_common_33 post (nI (s + k)) (nI t) (nI w) m (nI n) f (nI (s + i)) a b row := by
  intro d
  induction d with
  | zero =>
    intro f i row hi hf hF
    obtain ⟨f, rfl⟩ : ∃ g, f = g + 1 := ⟨f - 1, by omega⟩
    obtain rfl : i = k := by omega
    refine pk_le (s + i) (s + i) (fun _ => ⟨vp_in_nI (by omega) (by omega), ?_⟩) (fun h => absurd h (by omega))
    rw [nI_clamp (show w < 2 ^ 31 by omega), hF w (Nat.le_refl _)]
    exact K row
  | succ d ih =>
    intro f i row hi hf hF
    obtain ⟨f, rfl⟩ : ∃ g, f = g + 1 := ⟨f - 1, by omega⟩
    refine pk_le (s + k) (s + i) (fun h => absurd h (by omega)) (fun _ => ⟨w + 1, ?_⟩)
    refine sw_xc45 (A := A) (B := B) hn hw ht (by omega) (hA i (by omega)) hB (fun row' h' => ih f (i + 1) row' (by omega) (by omega) h') w (w + 1) 0 row 0 (by omega) (by omega) (sw_RowB hF ?_) ?_
    · rw [hF 0 (Nat.zero_le _), sw_Lz, sw_Lz]
    · rw [sw_Lz]
      rfl
theorem sw_xc9 {post : Int32 → SX → Prop} {m : Int32} {a b A B : Nat → Int32} {n s k t w : Nat} (hn : n ≤ 14) (hw : w ≤ n) (ht : w = 0 ∨ t < n) (hs : s + k ≤ 10)
    (hA : ∀ i, i < k → a (s + i) = A i) (hB : ∀ y, y < w → b ((t + y) % n) = B y)
    (K : ∀ row, post (nI (sw_L A B k w)) (m, nI n, a, b, row)) :
    ∀ (d f y : Nat) (row : Nat → Int32), y + d = w + 1 → d < f → (∀ q, q < y → row q = nI 0) →
      wX_common_9 post (nI s) (nI (s + k)) (nI t) (nI w) m (nI n) f (nI y) a b row := by
  intro d
  induction d with
  | zero =>
    intro f y row hy hf hF
    obtain ⟨f, rfl⟩ : ∃ g, f = g + 1 := ⟨f - 1, by omega⟩
    exact pk_lt w y (fun _ => ⟨k + 1, sw_xc33 (A := A) (B := B) hn hw ht hs hA hB K k (k + 1) 0 row (by omega) (by omega) (fun q hq => hF q (by omega))⟩) (fun h => absurd h (by omega))
  | succ d ih =>
    intro f y row hy hf hF
    obtain ⟨f, rfl⟩ : ∃ g, f = g + 1 := ⟨f - 1, by omega⟩
    refine pk_lt w y (fun h => absurd h (by omega)) (fun _ => ⟨vp_in_nI (by omega) (by omega), nm_e (nm_r (nI_1 y) ?_)⟩)
    rw [nI_clamp (show y < 2 ^ 31 by omega)]
    exact ih f (y + 1) _ (by omega) (by omega) (sw_FillS (f := fun _ => 0) hF rfl)
/-- common: the answer is COMMON of the two stretches, and only the row is another -/
theorem sw_xcommon {post : Int32 → SX → Prop} {a b row : Nat → Int32} {m : Int32} {n e g : Nat} (s k t w : Nat) (hn : n ≤ 14) (hw : w ≤ n) (ht : w = 0 ∨ t < n) (hs : s + k ≤ 10) (he : e = s + k) (hg : g = t + w)
    (K : ∀ row', post (nI (sw_C a b n s k t w)) (m, nI n, a, b, row')) : wpX_common post (m, nI n, a, b, row) (nI s) (nI e) (nI t) (nI g) := by
  subst he hg
  unfold wpX_common
  dsimp only
  refine nm_r (e' := nI w) ?_ ⟨w + 2, ?_⟩
  · rw [pk_sub (by omega)]
    exact congrArg nI (by omega)
  · exact sw_xc9 (A := fun x => a (s + x)) (B := fun y => b ((t + y) % n)) hn hw ht hs (fun _ _ => rfl) (fun _ _ => rfl) K (w + 1) (w + 2) 0 row (by omega) (by omega) (fun q hq => absurd hq (Nat.not_lt_zero q))
theorem sw_xd61 {post : Int32 → SX → Prop} {J : Int32 → (Nat → Int32) → (Nat → Int32) → (Nat → Int32) → Prop} {x2 m : Int32} {a b A B : Nat → Int32} {n s t w i : Nat} (hn : n ≤ 14) (hw : w ≤ n) (ht : t + w ≤ n) (hs : s + i < 10)
    (hA : a (s + i) = A i) (hB : ∀ y, y < w → b ((t + y) % n) = B y)
    (K : ∀ row, sw_Full (sw_D A B) row (i + 1) w → J (nI (s + i + 1)) a b row) :
    ∀ (d f y : Nat) (row : Nat → Int32) (c : Int32), y + 1 + d = w + 1 → d < f → sw_Row (sw_D A B) row i (y + 1) w → c = nI (sw_D A B i y) →
      wX_changes_61 post J x2 (nI t) (nI w) (nI (s + i)) m (nI n) f c (nI (y + 1)) a b row := by
  intro d
  induction d with
  | zero =>
    intro f y row c hy hf hR hc
    obtain ⟨f, rfl⟩ : ∃ g, f = g + 1 := ⟨f - 1, by omega⟩
    obtain rfl : y = w := by omega
    exact pk_lt y (y + 1) (fun _ => nm_r (nI_1 (s + i)) (K row (sw_RowE hR))) (fun h => absurd h (by omega))
  | succ d ih =>
    intro f y row c hy hf hR hc
    obtain ⟨f, rfl⟩ : ∃ g, f = g + 1 := ⟨f - 1, by omega⟩
    have hyw : y + 1 ≤ w := by omega
    have ex : (nI (s + i)).toNatClampNeg = s + i := nI_clamp (by omega)
    have ey : (nI (y + 1)).toNatClampNeg = y + 1 := nI_clamp (by omega)
    have b0 := sw_Db A B i y
    have b1 := sw_Db A B i (y + 1)
    have b2 := sw_Db A B (i + 1) y
    have vy : vp_in (nI (y + 1)) 15 := vp_in_nI (by omega) (by omega)
    refine pk_lt w (y + 1) (fun h => absurd h (by omega)) (fun _ => ⟨vy, nm_r (e' := nI (sw_D A B i (y + 1))) ?_ ⟨vp_in_nI hs (by omega), ?_⟩⟩)
    · rw [ey]
      exact hR.2 (y + 1) (Nat.le_refl _) hyw
    · rw [sw_pl t y]
      refine sw_xlet hn (by omega) ?_
      rw [hB y (by omega), ex, hA, ey]
      by_cases q : A i = B y
      · refine br_t q ⟨vy, nm_e (nm_r (nI_1 (y + 1)) ?_)⟩
        refine ih f (y + 1) _ _ (by omega) (by omega) (sw_RowS hR ?_) rfl
        rw [hc, sw_De i y q]
      · refine br_f q ⟨?_, ?_⟩
        · rw [nI_pred]
          exact vp_in_nI (by omega) (by omega)
        · rw [nI_pred, nI_clamp (show y < 2 ^ 31 by omega), hR.1 y (by omega), hc]
          refine sw_xsmaller _ _ (by omega) (by omega) ?_
          refine sw_xsmaller _ _ (by omega) (by omega) ⟨vy, nm_e (nm_r (nI_1 (y + 1)) ?_)⟩
          refine ih f (y + 1) _ _ (by omega) (by omega) (sw_RowS hR ?_) rfl
          rw [sw_Dn i y q, nI_1]
theorem sw_xd34 {post : Int32 → SX → Prop} {m : Int32} {a b A B : Nat → Int32} {n s k t w : Nat} (hn : n ≤ 14) (hw : w ≤ n) (ht : t + w ≤ n) (hs : s + k ≤ 10)
    (hA : ∀ i, i < k → a (s + i) = A i) (hB : ∀ y, y < w → b ((t + y) % n) = B y)
    (K : ∀ row, post (nI (sw_D A B k w)) (m, nI n, a, b, row)) :
    ∀ (d f i : Nat) (row : Nat → Int32), i + d = k → d < f → sw_Full (sw_D A B) row i w →
      wX_changes_34 post (nI (s + k)) (nI t) (nI w) m (nI n) f (nI (s + i)) a b row := by
  intro d
  induction d with
  | zero =>
    intro f i row hi hf hF
    obtain ⟨f, rfl⟩ : ∃ g, f = g + 1 := ⟨f - 1, by omega⟩
    obtain rfl : i = k := by omega
    refine pk_le (s + i) (s + i) (fun _ => ⟨vp_in_nI (by omega) (by omega), ?_⟩) (fun h => absurd h (by omega))
    rw [nI_clamp (show w < 2 ^ 31 by omega), hF w (Nat.le_refl _)]
    exact K row
  | succ d ih =>
    intro f i row hi hf hF
    obtain ⟨f, rfl⟩ : ∃ g, f = g + 1 := ⟨f - 1, by omega⟩
    have h0 : row 0 = nI i := by rw [hF 0 (Nat.zero_le _), sw_Dz]
    refine pk_le (s + k) (s + i) (fun h => absurd h (by omega)) (fun _ => nm_r h0 (nm_r (e' := upd row 0 (nI (i + 1))) (by rw [nI_1]) ⟨w + 1, ?_⟩))
    refine sw_xd61 (A := A) (B := B) hn hw ht (by omega) (hA i (by omega)) hB (fun row' h' => ih f (i + 1) row' (by omega) (by omega) h') w (w + 1) 0 _ _ (by omega) (by omega) ⟨?_, ?_⟩ ?_
    · intro q hq
      obtain rfl : q = 0 := by omega
      rw [pk_us, sw_Dz]
    · intro q h1 h2
      rw [pk_un (by omega)]
      exact hF q h2
    · rw [sw_Dz]
theorem sw_xd9 {post : Int32 → SX → Prop} {m : Int32} {a b A B : Nat → Int32} {n s k t w : Nat} (hn : n ≤ 14) (hw : w ≤ n) (ht : t + w ≤ n) (hs : s + k ≤ 10)
    (hA : ∀ i, i < k → a (s + i) = A i) (hB : ∀ y, y < w → b ((t + y) % n) = B y)
    (K : ∀ row, post (nI (sw_D A B k w)) (m, nI n, a, b, row)) :
    ∀ (d f y : Nat) (row : Nat → Int32), y + d = w + 1 → d < f → (∀ q, q < y → row q = nI q) →
      wX_changes_9 post (nI s) (nI (s + k)) (nI t) (nI w) m (nI n) f (nI y) a b row := by
  intro d
  induction d with
  | zero =>
    intro f y row hy hf hF
    obtain ⟨f, rfl⟩ : ∃ g, f = g + 1 := ⟨f - 1, by omega⟩
    exact pk_lt w y (fun _ => ⟨k + 1, sw_xd34 (A := A) (B := B) hn hw ht hs hA hB K k (k + 1) 0 row (by omega) (by omega) (fun q hq => hF q (by omega))⟩) (fun h => absurd h (by omega))
  | succ d ih =>
    intro f y row hy hf hF
    obtain ⟨f, rfl⟩ : ∃ g, f = g + 1 := ⟨f - 1, by omega⟩
    refine pk_lt w y (fun h => absurd h (by omega)) (fun _ => ⟨vp_in_nI (by omega) (by omega), nm_e (nm_r (nI_1 y) ?_)⟩)
    rw [nI_clamp (show y < 2 ^ 31 by omega)]
    exact ih f (y + 1) _ (by omega) (by omega) (sw_FillS (f := fun q => q) hF rfl)
/-- changes: the answer is CHANGES of the two stretches, and only the row is another -/
theorem sw_xchanges {post : Int32 → SX → Prop} {a b row : Nat → Int32} {m : Int32} {n e g : Nat} (s k t w : Nat) (hn : n ≤ 14) (ht : t + w ≤ n) (hs : s + k ≤ 10) (he : e = s + k) (hg : g = t + w)
    (K : ∀ row', post (nI (sw_E a b s k t w)) (m, nI n, a, b, row')) : wpX_changes post (m, nI n, a, b, row) (nI s) (nI e) (nI t) (nI g) := by
  subst he hg
  unfold wpX_changes
  dsimp only
  refine nm_r (e' := nI w) ?_ ⟨w + 2, ?_⟩
  · rw [pk_sub (by omega)]
    exact congrArg nI (by omega)
  · exact sw_xd9 (A := fun x => a (s + x)) (B := fun y => b (t + y)) hn (by omega) ht hs (fun _ _ => rfl) (fun y hy => congrArg b (Nat.mod_eq_of_lt (by omega))) K (w + 1) (w + 2) 0 row (by omega) (by omega) (fun q hq => absurd hq (Nat.not_lt_zero q))
end
section
/-! the reference: least, common, changes -/
theorem sw_yleast {post : Int32 → Prop} {u : SY} (p q : Nat) (hp : p < 2 ^ 31) (hq : q < 2 ^ 31) (h : post (nI (min p q))) : wpY_least post u (nI p) (nI q) := by
  obtain ⟨f_m, f_n, a_a, a_b, a_table, a_of⟩ := u
  exact sw_min hp hq h
theorem sw_ix (x y : Nat) : nI x * 15 + nI y = nI (x * 15 + y) := by
  rw [show (15 : Int32) = nI 15 from rfl, pk_mul, nI_add]
theorem sw_ixu (x y : Nat) : (nI (x + 1) - 1) * 15 + nI y = nI (x * 15 + y) := by
  rw [nI_pred, sw_ix]
theorem sw_ixl (x y : Nat) : nI x * 15 + nI (y + 1) - 1 = nI (x * 15 + y) := by
  rw [sw_ix]
  exact nI_pred (x * 15 + y)
theorem sw_ixc (x y : Nat) : (nI (x + 1) - 1) * 15 + nI (y + 1) - 1 = nI (x * 15 + y) := by
  rw [nI_pred, sw_ixl]
theorem sw_yc133 {post : Int32 → SY → Prop} {J3 J12 : Int32 → (Nat → Int32) → (Nat → Int32) → (Nat → Int32) → (Nat → Int32) → Prop} {x1 x2 x3 x4 m n v : Int32} {a b tab ofs : Nat → Int32} {x y : Nat} (hx : x ≤ 10) (hy : y ≤ 14)
    (h : J12 (nI (y + 1)) a b (upd tab (x * 15 + y) v) ofs) : wY_common_133 post J3 J12 x1 x2 x3 x4 (nI x) (nI y) v m n a b tab ofs := by
  unfold wY_common_133
  rw [sw_ix, nI_clamp (show x * 15 + y < 2 ^ 31 by omega)]
  exact ⟨vp_in_nI (by omega) (by omega), nm_e (nm_r (nI_1 y) h)⟩
theorem sw_yc80 {post : Int32 → SY → Prop} {J3 J12 : Int32 → (Nat → Int32) → (Nat → Int32) → (Nat → Int32) → (Nat → Int32) → Prop} {x2 x4 m z : Int32} {a b A B tab ofs : Nat → Int32} {n s t x y : Nat} (hn : n ≤ 14) (h0 : 0 < n) (ht : t ≤ 14) (hx : s + x < 10) (hy : y + 1 ≤ 14)
    (hA : a (s + x) = A x) (hB : b ((t + y) % n) = B y) (hc : tab (x * 15 + y) = nI (sw_L A B x y)) (hz : z = nI (max (sw_L A B x (y + 1)) (sw_L A B (x + 1) y)))
    (h : J12 (nI (y + 1 + 1)) a b (upd tab ((x + 1) * 15 + (y + 1)) (nI (sw_L A B (x + 1) (y + 1)))) ofs) : wY_common_80 post J3 J12 (nI s) x2 (nI t) x4 (nI (x + 1)) (nI (y + 1)) z m (nI n) a b tab ofs := by
  have hm : (t + y) % n < n := Nat.mod_lt _ h0
  unfold wY_common_80
  rw [sw_pl s x, sw_pl t y, pk_rem (show t + y < 2 ^ 31 by omega) h0 (show n < 2 ^ 31 by omega), nI_clamp (show s + x < 2 ^ 31 by omega), nI_clamp (show (t + y) % n < 2 ^ 31 by omega), sw_ixc x y, nI_clamp (show x * 15 + y < 2 ^ 31 by omega), hA, hB, hc]
  refine ⟨vp_in_nI hx (by omega), nI_ne0 h0 (by omega), vp_in_nI (by omega) (by omega), ?_⟩
  by_cases q : A x = B y
  · refine br_t q ⟨vp_in_nI (by omega) (by omega), nm_r (e' := nI (sw_L A B (x + 1) (y + 1))) ?_ (sw_yc133 (by omega) hy h)⟩
    rw [nI_1, sw_Le x y q]
  · refine br_f q (sw_yc133 (by omega) hy ?_)
    rw [hz, ← sw_Ln x y q]
    exact h
theorem sw_yc12 {post : Int32 → SY → Prop} {J3 : Int32 → (Nat → Int32) → (Nat → Int32) → (Nat → Int32) → (Nat → Int32) → Prop} {m : Int32} {a b A B ofs : Nat → Int32} {n s k t j x : Nat} (hn : n ≤ 14) (hj : j ≤ n) (ht : t ≤ 14) (hs : s + k ≤ 10) (hx : x ≤ k)
    (hA : ∀ i, i < k → a (s + i) = A i) (hB : ∀ y, y < j → b ((t + y) % n) = B y)
    (K : ∀ tab, sw_Tab (sw_L A B) tab (x + 1) 0 j → J3 (nI (x + 1)) a b tab ofs) :
    ∀ (d f y : Nat) (tab : Nat → Int32), y + d = j + 1 → d < f → sw_Tab (sw_L A B) tab x y j →
      wY_common_12 post J3 (nI s) (nI k) (nI t) (nI j) (nI x) m (nI n) f (nI y) a b tab ofs := by
  intro d
  induction d with
  | zero =>
    intro f y tab hy hf hT
    obtain ⟨f, rfl⟩ : ∃ g, f = g + 1 := ⟨f - 1, by omega⟩
    obtain rfl : y = j + 1 := by omega
    exact pk_lt j (j + 1) (fun _ => nm_r (nI_1 x) (K tab (sw_TabR hT))) (fun h => absurd h (by omega))
  | succ d ih =>
    intro f y tab hy hf hT
    obtain ⟨f, rfl⟩ : ∃ g, f = g + 1 := ⟨f - 1, by omega⟩
    have go : ∀ v : Int32, v = nI (sw_L A B x y) → wY_common_12 post J3 (nI s) (nI k) (nI t) (nI j) (nI x) m (nI n) f (nI (y + 1)) a b (upd tab (x * 15 + y) v) ofs :=
      fun v hv => ih f (y + 1) _ (by omega) (by omega) (sw_TabS hT (by omega) (by omega) hv)
    refine pk_lt j y (fun h => absurd h (by omega)) (fun _ => ?_)
    cases x with
    | zero => exact pk_le 0 0 (fun _ => sw_yc133 (by omega) (by omega) (go 0 rfl)) (fun h => absurd h (by omega))
    | succ x =>
      refine pk_le (x + 1) 0 (fun h => absurd h (by omega)) (fun _ => ?_)
      cases y with
      | zero => exact pk_le 0 0 (fun _ => sw_yc133 (by omega) (by omega) (go 0 (by rw [sw_Lz]; rfl))) (fun h => absurd h (by omega))
      | succ y =>
        have b1 := sw_Lb A B x (y + 1)
        have b2 := sw_Lb A B (x + 1) y
        refine pk_le (y + 1) 0 (fun h => absurd h (by omega)) (fun _ => ?_)
        rw [sw_ixu x (y + 1), sw_ixl (x + 1) y, nI_clamp (show x * 15 + (y + 1) < 2 ^ 31 by omega), nI_clamp (show (x + 1) * 15 + y < 2 ^ 31 by omega)]
        refine ⟨vp_in_nI (by omega) (by omega), nm_r (hT x (y + 1) (by omega) (Or.inl (by omega))) ⟨vp_in_nI (by omega) (by omega), nm_r (hT (x + 1) y (by omega) (Or.inr ⟨rfl, by omega⟩)) ?_⟩⟩
        have H : ∀ z, z = nI (max (sw_L A B x (y + 1)) (sw_L A B (x + 1) y)) → wY_common_80 post J3 (wY_common_12 post J3 (nI s) (nI k) (nI t) (nI j) (nI (x + 1)) m (nI n) f) (nI s) (nI k) (nI t) (nI j) (nI (x + 1)) (nI (y + 1)) z m (nI n) a b tab ofs :=
          fun z hz => sw_yc80 hn (by omega) ht (by omega) (by omega) (hA x (by omega)) (hB y (by omega)) (hT x y (by omega) (Or.inl (by omega))) hz (go _ rfl)
        exact pk_le (sw_L A B x (y + 1)) (sw_L A B (x + 1) y) (fun c => H _ (by rw [Nat.max_eq_right c])) (fun c => H _ (by rw [Nat.max_eq_left (Nat.le_of_lt c)]))
theorem sw_yc3 {post : Int32 → SY → Prop} {m : Int32} {a b A B ofs : Nat → Int32} {n s k t j : Nat} (hn : n ≤ 14) (hj : j ≤ n) (ht : t ≤ 14) (hs : s + k ≤ 10)
    (hA : ∀ i, i < k → a (s + i) = A i) (hB : ∀ y, y < j → b ((t + y) % n) = B y)
    (K : ∀ tab, post (nI (sw_L A B k j)) (m, nI n, a, b, tab, ofs)) :
    ∀ (d f x : Nat) (tab : Nat → Int32), x + d = k + 1 → d < f → sw_Tab (sw_L A B) tab x 0 j →
      wY_common_3 post (nI s) (nI k) (nI t) (nI j) m (nI n) f (nI x) a b tab ofs := by
  intro d
  induction d with
  | zero =>
    intro f x tab hx hf hT
    obtain ⟨f, rfl⟩ : ∃ g, f = g + 1 := ⟨f - 1, by omega⟩
    refine pk_lt k x (fun _ => ?_) (fun h => absurd h (by omega))
    rw [sw_ix, nI_clamp (show k * 15 + j < 2 ^ 31 by omega), hT k j (Nat.le_refl _) (Or.inl (by omega))]
    exact ⟨vp_in_nI (by omega) (by omega), K tab⟩
  | succ d ih =>
    intro f x tab hx hf hT
    obtain ⟨f, rfl⟩ : ∃ g, f = g + 1 := ⟨f - 1, by omega⟩
    exact pk_lt k x (fun h => absurd h (by omega)) (fun _ => ⟨j + 2, sw_yc12 (A := A) (B := B) hn hj ht hs (by omega) hA hB (fun tab' h' => ih f (x + 1) tab' (by omega) (by omega) h') (j + 1) (j + 2) 0 tab (by omega) (by omega) hT⟩)
/-- common: the answer is COMMON of the two stretches, and only the table is another -/
theorem sw_ycommon {post : Int32 → SY → Prop} {a b tab ofs : Nat → Int32} {m : Int32} {n : Nat} (s k t j : Nat) (hn : n ≤ 14) (hj : j ≤ n) (ht : t ≤ 14) (hs : s + k ≤ 10)
    (K : ∀ tab', post (nI (sw_C a b n s k t j)) (m, nI n, a, b, tab', ofs)) : wpY_common post (m, nI n, a, b, tab, ofs) (nI s) (nI k) (nI t) (nI j) := by
  unfold wpY_common
  dsimp only
  exact ⟨k + 2, sw_yc3 (A := fun x => a (s + x)) (B := fun y => b ((t + y) % n)) hn hj ht hs (fun _ _ => rfl) (fun _ _ => rfl) K (k + 1) (k + 2) 0 tab (by omega) (by omega) (sw_Tab0 _ _ _)⟩
theorem sw_yd141 {post : Int32 → SY → Prop} {J3 J12 : Int32 → (Nat → Int32) → (Nat → Int32) → (Nat → Int32) → (Nat → Int32) → Prop} {x1 x2 x3 x4 m n v : Int32} {a b tab ofs : Nat → Int32} {x y : Nat} (hx : x ≤ 10) (hy : y ≤ 14)
    (h : J12 (nI (y + 1)) a b (upd tab (x * 15 + y) v) ofs) : wY_changes_141 post J3 J12 x1 x2 x3 x4 (nI x) (nI y) v m n a b tab ofs := by
  unfold wY_changes_141
  rw [sw_ix, nI_clamp (show x * 15 + y < 2 ^ 31 by omega)]
  exact ⟨vp_in_nI (by omega) (by omega), nm_e (nm_r (nI_1 y) h)⟩
theorem sw_yd73 {post : Int32 → SY → Prop} {J3 J12 : Int32 → (Nat → Int32) → (Nat → Int32) → (Nat → Int32) → (Nat → Int32) → Prop} {x1 x2 x3 x4 m n : Int32} {a b tab ofs : Nat → Int32} {x y o u l c : Nat} (hx : x + 1 ≤ 10) (hy : y + 1 ≤ 14) (ho : o ≤ 1) (bu : u < 100) (bl : l < 100) (bc : c < 100)
    (hu : tab (x * 15 + (y + 1)) = nI u) (hl : tab ((x + 1) * 15 + y) = nI l) (hc : tab (x * 15 + y) = nI c)
    (h : J12 (nI (y + 1 + 1)) a b (upd tab ((x + 1) * 15 + (y + 1)) (nI (min (c + o) (min u l + 1)))) ofs) : wY_changes_73 post J3 J12 x1 x2 x3 x4 (nI (x + 1)) (nI (y + 1)) (nI o) m n a b tab ofs := by
  unfold wY_changes_73
  rw [sw_ixc x y, sw_ixu x (y + 1), sw_ixl (x + 1) y, nI_clamp (show x * 15 + (y + 1) < 2 ^ 31 by omega), nI_clamp (show (x + 1) * 15 + y < 2 ^ 31 by omega), nI_clamp (show x * 15 + y < 2 ^ 31 by omega), hu, hl, hc, nI_add]
  refine ⟨vp_in_nI (by omega) (by omega), vp_in_nI (by omega) (by omega), sw_yleast u l (by omega) (by omega) (nm_r (nI_1 _) ⟨vp_in_nI (by omega) (by omega), ?_⟩)⟩
  exact sw_yleast (c + o) (min u l + 1) (by omega) (by omega) (sw_yd141 (by omega) hy h)
theorem sw_yd12 {post : Int32 → SY → Prop} {J3 : Int32 → (Nat → Int32) → (Nat → Int32) → (Nat → Int32) → (Nat → Int32) → Prop} {m n : Int32} {a b A B ofs : Nat → Int32} {s k t j x : Nat} (hj : t + j ≤ 14) (hs : s + k ≤ 10) (hx : x ≤ k)
    (hA : ∀ i, i < k → a (s + i) = A i) (hB : ∀ y, y < j → b (t + y) = B y)
    (K : ∀ tab, sw_Tab (sw_D A B) tab (x + 1) 0 j → J3 (nI (x + 1)) a b tab ofs) :
    ∀ (d f y : Nat) (tab : Nat → Int32), y + d = j + 1 → d < f → sw_Tab (sw_D A B) tab x y j →
      wY_changes_12 post J3 (nI s) (nI k) (nI t) (nI j) (nI x) m n f (nI y) a b tab ofs := by
  intro d
  induction d with
  | zero =>
    intro f y tab hy hf hT
    obtain ⟨f, rfl⟩ : ∃ g, f = g + 1 := ⟨f - 1, by omega⟩
    obtain rfl : y = j + 1 := by omega
    exact pk_lt j (j + 1) (fun _ => nm_r (nI_1 x) (K tab (sw_TabR hT))) (fun h => absurd h (by omega))
  | succ d ih =>
    intro f y tab hy hf hT
    obtain ⟨f, rfl⟩ : ∃ g, f = g + 1 := ⟨f - 1, by omega⟩
    have go : ∀ v : Int32, v = nI (sw_D A B x y) → wY_changes_12 post J3 (nI s) (nI k) (nI t) (nI j) (nI x) m n f (nI (y + 1)) a b (upd tab (x * 15 + y) v) ofs :=
      fun v hv => ih f (y + 1) _ (by omega) (by omega) (sw_TabS hT (by omega) (by omega) hv)
    refine pk_lt j y (fun h => absurd h (by omega)) (fun _ => ?_)
    cases x with
    | zero =>
      refine pk_eq 0 0 (fun _ => ?_) (fun h => absurd rfl h)
      unfold wY_changes_31
      exact pk_le 0 0 (fun _ => sw_yd141 (by omega) (by omega) (go _ rfl)) (fun h => absurd h (by omega))
    | succ x =>
      refine pk_eq (x + 1) 0 (fun h => absurd h (by omega)) (fun _ => ?_)
      unfold wY_changes_31
      refine pk_le (x + 1) 0 (fun h => absurd h (by omega)) (fun _ => ?_)
      cases y with
      | zero => exact pk_le 0 0 (fun _ => sw_yd141 (by omega) (by omega) (go _ (by rw [sw_Dz]))) (fun h => absurd h (by omega))
      | succ y =>
        have b0 := sw_Db A B x y
        have b1 := sw_Db A B x (y + 1)
        have b2 := sw_Db A B (x + 1) y
        refine pk_le (y + 1) 0 (fun h => absurd h (by omega)) (fun _ => ?_)
        rw [sw_pl s x, sw_pl t y, nI_clamp (show s + x < 2 ^ 31 by omega), nI_clamp (show t + y < 2 ^ 31 by omega), hA x (by omega), hB y (by omega)]
        refine ⟨vp_in_nI (by omega) (by omega), vp_in_nI (by omega) (by omega), ?_⟩
        have hu := hT x (y + 1) (by omega) (Or.inl (by omega))
        have hl := hT (x + 1) y (by omega) (Or.inr ⟨rfl, by omega⟩)
        have hc := hT x y (by omega) (Or.inl (by omega))
        by_cases q : A x = B y
        · exact br_t q (sw_yd73 (o := 0) (by omega) (by omega) (by omega) (by omega) (by omega) (by omega) hu hl hc (go _ (by rw [sw_Dre x y q])))
        · exact br_f q (sw_yd73 (o := 1) (by omega) (by omega) (by omega) (by omega) (by omega) (by omega) hu hl hc (go _ (by rw [sw_Drn x y q])))
theorem sw_yd3 {post : Int32 → SY → Prop} {m n : Int32} {a b A B ofs : Nat → Int32} {s k t j : Nat} (hj : t + j ≤ 14) (hs : s + k ≤ 10)
    (hA : ∀ i, i < k → a (s + i) = A i) (hB : ∀ y, y < j → b (t + y) = B y)
    (K : ∀ tab, post (nI (sw_D A B k j)) (m, n, a, b, tab, ofs)) :
    ∀ (d f x : Nat) (tab : Nat → Int32), x + d = k + 1 → d < f → sw_Tab (sw_D A B) tab x 0 j →
      wY_changes_3 post (nI s) (nI k) (nI t) (nI j) m n f (nI x) a b tab ofs := by
  intro d
  induction d with
  | zero =>
    intro f x tab hx hf hT
    obtain ⟨f, rfl⟩ : ∃ g, f = g + 1 := ⟨f - 1, by omega⟩
    refine pk_lt k x (fun _ => ?_) (fun h => absurd h (by omega))
    rw [sw_ix, nI_clamp (show k * 15 + j < 2 ^ 31 by omega), hT k j (Nat.le_refl _) (Or.inl (by omega))]
    exact ⟨vp_in_nI (by omega) (by omega), K tab⟩
  | succ d ih =>
    intro f x tab hx hf hT
    obtain ⟨f, rfl⟩ : ∃ g, f = g + 1 := ⟨f - 1, by omega⟩
    exact pk_lt k x (fun h => absurd h (by omega)) (fun _ => ⟨j + 2, sw_yd12 (A := A) (B := B) hj hs (by omega) hA hB (fun tab' h' => ih f (x + 1) tab' (by omega) (by omega) h') (j + 1) (j + 2) 0 tab (by omega) (by omega) hT⟩)
/-- changes: the answer is CHANGES of the two stretches, and only the table is another -/
theorem sw_ychanges {post : Int32 → SY → Prop} {a b tab ofs : Nat → Int32} {m n : Int32} (s k t j : Nat) (hj : t + j ≤ 14) (hs : s + k ≤ 10)
    (K : ∀ tab', post (nI (sw_E a b s k t j)) (m, n, a, b, tab', ofs)) : wpY_changes post (m, n, a, b, tab, ofs) (nI s) (nI k) (nI t) (nI j) := by
  unfold wpY_changes
  dsimp only
  exact ⟨k + 2, sw_yd3 (A := fun x => a (s + x)) (B := fun y => b (t + y)) hj hs (fun _ _ => rfl) (fun _ _ => rfl) K (k + 1) (k + 2) 0 tab (by omega) (by omega) (sw_Tab0 _ _ _)⟩
end
section
/-! the class's scans: nearest, nearestAt, greatestOfWidth, shortest, rotated, isTight, tight -/
/-- CHANGES of A and the stretch (i, j) of B -/
def sw_H (a b : Nat → Int32) (m i j : Nat) : Nat := sw_E a b 0 m i (j - i)
theorem sw_Hb (a b : Nat → Int32) (m i j : Nat) : sw_H a b m i j ≤ m + (j - i) := sw_Eb a b 0 m i (j - i)
theorem sw_H0 (a b : Nat → Int32) (m i : Nat) : sw_H a b m i i = m := by
  unfold sw_H
  rw [Nat.sub_self, sw_E0]
/-- the least so far at (i, j), where (p, q) is the first with the least -/
def sw_NI (f : Nat → Nat → Nat) (p q i j l : Nat) : Prop := f p q ≤ l ∧ ((p < i ∨ (p = i ∧ q < j)) → l = f p q)
theorem sw_NIs {f : Nat → Nat → Nat} {n p q i j l : Nat} (hF : sw_First f n p q) (hij : i ≤ j) (hj : j ≤ n) (H : sw_NI f p q i j l) : sw_NI f p q i (j + 1) (min l (f i j)) := by
  obtain ⟨h1, h2, h3, h4⟩ := hF
  have h5 := h3 i j hij hj
  have h6 := H.1
  refine ⟨by omega, fun c => ?_⟩
  by_cases e : p = i ∧ q = j
  · obtain ⟨rfl, rfl⟩ := e
    omega
  · have h7 := H.2 (by omega)
    omega
theorem sw_NIr {f : Nat → Nat → Nat} {n p q i l : Nat} (hF : sw_First f n p q) (H : sw_NI f p q i (n + 1) l) : sw_NI f p q (i + 1) (i + 1) l := by
  obtain ⟨h1, h2, h3, h4⟩ := hF
  exact ⟨H.1, fun c => H.2 (by omega)⟩
theorem sw_NIe {f : Nat → Nat → Nat} {n p q l : Nat} (hF : sw_First f n p q) (H : sw_NI f p q (n + 1) (n + 1) l) : l = f p q := H.2 (Or.inl (by have := hF.1; have := hF.2.1; omega))
theorem sw_xn17 {post : Int32 → SX → Prop} {J : Int32 → Int32 → Int32 → Int32 → (Nat → Int32) → (Nat → Int32) → (Nat → Int32) → Prop} {a b : Nat → Int32} {m n p q i : Nat} (hm : m ≤ 10) (hn : n ≤ 14) (hi : i ≤ n) (hF : sw_First (sw_H a b m) n p q)
    (K : ∀ row l, l ≤ m → sw_NI (sw_H a b m) p q (i + 1) (i + 1) l → J (nI l) (nI (i + 1)) (nI m) (nI n) a b row) :
    ∀ (d f j l : Nat) (row : Nat → Int32), j + d = n + 1 → i ≤ j → d < f → l ≤ m → sw_NI (sw_H a b m) p q i j l → wX_nearest_17 post J (nI i) f (nI l) (nI j) (nI m) (nI n) a b row := by
  intro d
  induction d with
  | zero =>
    intro f j l row hj hij hf hl hN
    obtain ⟨f, rfl⟩ : ∃ g, f = g + 1 := ⟨f - 1, by omega⟩
    obtain rfl : j = n + 1 := by omega
    exact pk_lt n (n + 1) (fun _ => nm_r (nI_1 i) (K row l hl (sw_NIr hF hN))) (fun h => absurd h (by omega))
  | succ d ih =>
    intro f j l row hj hij hf hl hN
    obtain ⟨f, rfl⟩ : ∃ g, f = g + 1 := ⟨f - 1, by omega⟩
    have hb := sw_Hb a b m i j
    refine pk_lt n j (fun h => absurd h (by omega)) (fun _ => ?_)
    refine sw_xchanges 0 m i (j - i) hn (by omega) (by omega) (by omega) (by omega) (fun row' => ?_)
    refine sw_xsmaller l (sw_H a b m i j) (by omega) (by omega) (nm_r (nI_1 j) ?_)
    exact ih f (j + 1) _ row' (by omega) (by omega) (by omega) (by omega) (sw_NIs hF hij (by omega) hN)
theorem sw_xn7 {post : Int32 → SX → Prop} {a b : Nat → Int32} {m n p q : Nat} (hm : m ≤ 10) (hn : n ≤ 14) (hF : sw_First (sw_H a b m) n p q)
    (K : ∀ row, post (nI (sw_H a b m p q)) (nI m, nI n, a, b, row)) :
    ∀ (d f i l : Nat) (row : Nat → Int32), i + d = n + 1 → d < f → l ≤ m → sw_NI (sw_H a b m) p q i i l → wX_nearest_7 post f (nI l) (nI i) (nI m) (nI n) a b row := by
  intro d
  induction d with
  | zero =>
    intro f i l row hi hf hl hN
    obtain ⟨f, rfl⟩ : ∃ g, f = g + 1 := ⟨f - 1, by omega⟩
    obtain rfl : i = n + 1 := by omega
    obtain rfl := sw_NIe hF hN
    exact pk_lt n (n + 1) (fun _ => K row) (fun h => absurd h (by omega))
  | succ d ih =>
    intro f i l row hi hf hl hN
    obtain ⟨f, rfl⟩ : ∃ g, f = g + 1 := ⟨f - 1, by omega⟩
    exact pk_lt n i (fun h => absurd h (by omega)) (fun _ => ⟨n + 2, sw_xn17 hm hn (by omega) hF (fun row' l' hl' hN' => ih f (i + 1) l' row' (by omega) (by omega) hl' hN') (n + 1 - i) (n + 2) i l row (by omega) (by omega) (by omega) hl hN⟩)
theorem sw_xnearest {post : Int32 → SX → Prop} {a b row : Nat → Int32} {m n p q : Nat} (hm : m ≤ 10) (hn : n ≤ 14) (hF : sw_First (sw_H a b m) n p q)
    (K : ∀ row', post (nI (sw_H a b m p q)) (nI m, nI n, a, b, row')) : wpX_nearest post (nI m, nI n, a, b, row) := by
  unfold wpX_nearest
  dsimp only
  have h := hF.2.2.1 0 0 (Nat.le_refl 0) (Nat.zero_le n)
  rw [sw_H0] at h
  exact ⟨n + 2, sw_xn7 hm hn hF K (n + 1) (n + 2) 0 m row (by omega) (by omega) (Nat.le_refl m) ⟨h, fun c => by omega⟩⟩
def sw_AI (f : Nat → Nat → Nat) (p q i j l t : Nat) : Prop := (l = f p q ∧ t = 16 * p + q) ∨ (f p q < l ∧ ¬ (p < i ∨ (p = i ∧ q < j)))
theorem sw_AIk {f : Nat → Nat → Nat} {n p q i j l t : Nat} (hF : sw_First f n p q) (H : sw_AI f p q i j l t) (c : l ≤ f i j) : sw_AI f p q i (j + 1) l t := by
  obtain ⟨h1, h2, h3, h4⟩ := hF
  rcases H with H | ⟨g1, g2⟩
  · exact Or.inl H
  · refine Or.inr ⟨g1, ?_⟩
    by_cases e : p = i ∧ q = j
    · obtain ⟨rfl, rfl⟩ := e
      omega
    · omega
theorem sw_AIu {f : Nat → Nat → Nat} {n p q i j l t : Nat} (hF : sw_First f n p q) (hij : i ≤ j) (hj : j ≤ n) (H : sw_AI f p q i j l t) (c : f i j < l) : sw_AI f p q i (j + 1) (f i j) (16 * i + j) := by
  obtain ⟨h1, h2, h3, h4⟩ := hF
  have h5 := h3 i j hij hj
  rcases H with ⟨g1, g2⟩ | ⟨g1, g2⟩
  · omega
  · by_cases e : p = i ∧ q = j
    · obtain ⟨rfl, rfl⟩ := e
      exact Or.inl ⟨rfl, rfl⟩
    · exact Or.inr ⟨h4 i j hij hj (by omega), by omega⟩
theorem sw_AIr {f : Nat → Nat → Nat} {n p q i l t : Nat} (hF : sw_First f n p q) (H : sw_AI f p q i (n + 1) l t) : sw_AI f p q (i + 1) (i + 1) l t := by
  obtain ⟨h1, h2, h3, h4⟩ := hF
  rcases H with H | ⟨g1, g2⟩
  · exact Or.inl H
  · exact Or.inr ⟨g1, by omega⟩
theorem sw_16 (i j : Nat) : (16 : Int32) * nI i + nI j = nI (16 * i + j) := by
  rw [show (16 : Int32) = nI 16 from rfl, pk_mul, nI_add]
theorem sw_xa20 {post : Int32 → SX → Prop} {J : Int32 → Int32 → Int32 → Int32 → Int32 → (Nat → Int32) → (Nat → Int32) → (Nat → Int32) → Prop} {a b : Nat → Int32} {m n p q i : Nat} (hm : m ≤ 10) (hn : n ≤ 14) (hi : i ≤ n) (hF : sw_First (sw_H a b m) n p q)
    (K : ∀ row l t, l ≤ m → sw_AI (sw_H a b m) p q (i + 1) (i + 1) l t → J (nI l) (nI t) (nI (i + 1)) (nI m) (nI n) a b row) :
    ∀ (d f j l t : Nat) (row : Nat → Int32), j + d = n + 1 → i ≤ j → d < f → l ≤ m → sw_AI (sw_H a b m) p q i j l t → wX_nearestAt_20 post J (nI i) f (nI l) (nI t) (nI j) (nI m) (nI n) a b row := by
  intro d
  induction d with
  | zero =>
    intro f j l t row hj hij hf hl hN
    obtain ⟨f, rfl⟩ : ∃ g, f = g + 1 := ⟨f - 1, by omega⟩
    obtain rfl : j = n + 1 := by omega
    exact pk_lt n (n + 1) (fun _ => nm_r (nI_1 i) (K row l t hl (sw_AIr hF hN))) (fun h => absurd h (by omega))
  | succ d ih =>
    intro f j l t row hj hij hf hl hN
    obtain ⟨f, rfl⟩ : ∃ g, f = g + 1 := ⟨f - 1, by omega⟩
    have hb := sw_Hb a b m i j
    refine pk_lt n j (fun h => absurd h (by omega)) (fun _ => ?_)
    refine sw_xchanges 0 m i (j - i) hn (by omega) (by omega) (by omega) (by omega) (fun row' => ?_)
    refine pk_le l (sw_H a b m i j) (fun c => nm_r (nI_1 j) ?_) (fun c => nm_r (sw_16 i j) (nm_r (nI_1 j) ?_))
    · exact ih f (j + 1) l t row' (by omega) (by omega) (by omega) hl (sw_AIk hF hN c)
    · exact ih f (j + 1) (sw_H a b m i j) (16 * i + j) row' (by omega) (by omega) (by omega) (by omega) (sw_AIu hF hij (by omega) hN c)
theorem sw_xa9 {post : Int32 → SX → Prop} {a b : Nat → Int32} {m n p q : Nat} (hm : m ≤ 10) (hn : n ≤ 14) (hF : sw_First (sw_H a b m) n p q)
    (K : ∀ row, post (nI (16 * p + q)) (nI m, nI n, a, b, row)) :
    ∀ (d f i l t : Nat) (row : Nat → Int32), i + d = n + 1 → d < f → l ≤ m → sw_AI (sw_H a b m) p q i i l t → wX_nearestAt_9 post f (nI l) (nI t) (nI i) (nI m) (nI n) a b row := by
  intro d
  induction d with
  | zero =>
    intro f i l t row hi hf hl hN
    obtain ⟨f, rfl⟩ : ∃ g, f = g + 1 := ⟨f - 1, by omega⟩
    obtain rfl : i = n + 1 := by omega
    have h1 := hF.1
    have h2 := hF.2.1
    obtain ⟨-, rfl⟩ : l = sw_H a b m p q ∧ t = 16 * p + q := by
      rcases hN with h | ⟨g1, g2⟩
      · exact h
      · omega
    exact pk_lt n (n + 1) (fun _ => K row) (fun h => absurd h (by omega))
  | succ d ih =>
    intro f i l t row hi hf hl hN
    obtain ⟨f, rfl⟩ : ∃ g, f = g + 1 := ⟨f - 1, by omega⟩
    exact pk_lt n i (fun h => absurd h (by omega)) (fun _ => ⟨n + 2, sw_xa20 hm hn (by omega) hF (fun row' l' t' hl' hN' => ih f (i + 1) l' t' row' (by omega) (by omega) hl' hN') (n + 1 - i) (n + 2) i l t row (by omega) (by omega) (by omega) hl hN⟩)
theorem sw_xnearestAt {post : Int32 → SX → Prop} {a b row : Nat → Int32} {m n p q : Nat} (hm : m ≤ 10) (hn : n ≤ 14) (hF : sw_First (sw_H a b m) n p q)
    (K : ∀ row', post (nI (16 * p + q)) (nI m, nI n, a, b, row')) : wpX_nearestAt post (nI m, nI n, a, b, row) := by
  unfold wpX_nearestAt
  dsimp only
  refine ⟨n + 2, sw_xa9 hm hn hF K (n + 1) (n + 2) 0 m 0 row (by omega) (by omega) (Nat.le_refl m) ?_⟩
  by_cases e : p = 0 ∧ q = 0
  · obtain ⟨rfl, rfl⟩ := e
    exact Or.inl ⟨(sw_H0 a b m 0).symm, rfl⟩
  · have h := hF.2.2.2 0 0 (Nat.le_refl 0) (Nat.zero_le n) (by have := hF.1; omega)
    rw [sw_H0] at h
    exact Or.inr ⟨h, by omega⟩
/-- the greatest COMMON of A and a stretch of w letters -/
def sw_W (a b : Nat → Int32) (n m w : Nat) : Nat := sw_G (fun i => sw_C a b n 0 m i w) (n + 1 - w)
theorem sw_xg4 {post : Int32 → SX → Prop} {a b : Nat → Int32} {m n w : Nat} (hm : m ≤ 10) (hn : n ≤ 14) (hw : w ≤ n)
    (K : ∀ row, post (nI (sw_W a b n m w)) (nI m, nI n, a, b, row)) :
    ∀ (d f i : Nat) (row : Nat → Int32), i + d = n + 1 - w → d < f → wX_greatestOfWidth_4 post (nI w) f (nI (sw_G (fun i => sw_C a b n 0 m i w) i)) (nI i) (nI m) (nI n) a b row := by
  intro d
  induction d with
  | zero =>
    intro f i row hi hf
    obtain ⟨f, rfl⟩ : ∃ g, f = g + 1 := ⟨f - 1, by omega⟩
    obtain rfl : i = n + 1 - w := by omega
    exact pk_lt n (n + 1 - w + w) (fun _ => K row) (fun h => absurd h (by omega)) rfl (nI_add _ _)
  | succ d ih =>
    intro f i row hi hf
    obtain ⟨f, rfl⟩ : ∃ g, f = g + 1 := ⟨f - 1, by omega⟩
    have h1 := sw_Gb (fun i => sw_C a b n 0 m i w) m (fun i => sw_Cb a b n 0 m i w) i
    have h2 := sw_Cb a b n 0 m i w
    refine pk_lt n (i + w) (fun h => absurd h (by omega)) (fun _ => ?_) rfl (nI_add _ _)
    rw [nI_add]
    refine sw_xcommon 0 m i w hn hw (by omega) (by omega) (by omega) rfl (fun row' => ?_)
    refine sw_xlarger _ _ (by omega) (by omega) (nm_r (nI_1 i) ?_)
    exact ih f (i + 1) row' (by omega) (by omega)
theorem sw_xgreatest {post : Int32 → SX → Prop} {a b row : Nat → Int32} {m n : Nat} (w : Nat) (hm : m ≤ 10) (hn : n ≤ 14) (hw : w ≤ n)
    (K : ∀ row', post (nI (sw_W a b n m w)) (nI m, nI n, a, b, row')) : wpX_greatestOfWidth post (nI m, nI n, a, b, row) (nI w) := by
  unfold wpX_greatestOfWidth
  dsimp only
  exact ⟨n + 2, sw_xg4 hm hn hw K (n + 1 - w) (n + 2) 0 row (by omega) (by omega)⟩
theorem sw_xs2 {post : Int32 → SX → Prop} {a b : Nat → Int32} {m n : Nat} {k : Int32} (hm : m ≤ 10) (hn : n ≤ 14) :
    ∀ (d f w : Nat) (row : Nat → Int32), w + d = n + 1 → d < f → (∀ row', post (sw_sh (sw_W a b n m) k d w) (nI m, nI n, a, b, row')) → wX_shortest_2 post k f (nI w) (nI m) (nI n) a b row := by
  intro d
  induction d with
  | zero =>
    intro f w row hw hf K
    obtain ⟨f, rfl⟩ : ∃ g, f = g + 1 := ⟨f - 1, by omega⟩
    exact pk_lt n w (fun _ => K row) (fun h => absurd h (by omega))
  | succ d ih =>
    intro f w row hw hf K
    obtain ⟨f, rfl⟩ : ∃ g, f = g + 1 := ⟨f - 1, by omega⟩
    refine pk_lt n w (fun h => absurd h (by omega)) (fun _ => ?_)
    refine sw_xgreatest w hm hn (by omega) (fun row' => ?_)
    by_cases c : nI (sw_W a b n m w) < k
    · refine br_t c (nm_r (nI_1 w) (ih f (w + 1) row' (by omega) (by omega) (fun row2 => ?_)))
      have h := K row2
      rw [sw_sh_t c] at h
      exact h
    · refine br_f c ?_
      have h := K row'
      rw [sw_sh_f c] at h
      exact h
theorem sw_xshortest {post : Int32 → SX → Prop} {a b row : Nat → Int32} {m n : Nat} {k : Int32} (hm : m ≤ 10) (hn : n ≤ 14)
    (K : ∀ row', post (sw_sh (sw_W a b n m) k (n + 1) 0) (nI m, nI n, a, b, row')) : wpX_shortest post (nI m, nI n, a, b, row) k := by
  unfold wpX_shortest
  dsimp only
  exact ⟨n + 2, sw_xs2 hm hn (n + 1) (n + 2) 0 row (by omega) (by omega) K⟩
theorem sw_xr4 {post : Int32 → SX → Prop} {a b : Nat → Int32} {m n : Nat} (hm : m ≤ 10) (hn : n ≤ 14)
    (K : ∀ row, post (nI (sw_G (fun i => sw_C a b n 0 m i n) n)) (nI m, nI n, a, b, row)) :
    ∀ (d f i : Nat) (row : Nat → Int32), i + d = n → d < f → wX_rotated_4 post f (nI (sw_G (fun i => sw_C a b n 0 m i n) i)) (nI i) (nI m) (nI n) a b row := by
  intro d
  induction d with
  | zero =>
    intro f i row hi hf
    obtain ⟨f, rfl⟩ : ∃ g, f = g + 1 := ⟨f - 1, by omega⟩
    obtain rfl : i = n := by omega
    exact pk_le i i (fun _ => K row) (fun h => absurd h (by omega))
  | succ d ih =>
    intro f i row hi hf
    obtain ⟨f, rfl⟩ : ∃ g, f = g + 1 := ⟨f - 1, by omega⟩
    have h1 := sw_Gb (fun i => sw_C a b n 0 m i n) m (fun i => sw_Cb a b n 0 m i n) i
    have h2 := sw_Cb a b n 0 m i n
    refine pk_le n i (fun h => absurd h (by omega)) (fun _ => ?_)
    rw [nI_add]
    refine sw_xcommon 0 m i n hn (Nat.le_refl n) (by omega) (by omega) (by omega) rfl (fun row' => ?_)
    refine sw_xlarger _ _ (by omega) (by omega) (nm_r (nI_1 i) ?_)
    exact ih f (i + 1) row' (by omega) (by omega)
theorem sw_xrotated {post : Int32 → SX → Prop} {a b row : Nat → Int32} {m n : Nat} (hm : m ≤ 10) (hn : n ≤ 14)
    (K : ∀ row', post (nI (sw_G (fun i => sw_C a b n 0 m i n) n)) (nI m, nI n, a, b, row')) : wpX_rotated post (nI m, nI n, a, b, row) := by
  unfold wpX_rotated
  dsimp only
  exact ⟨n + 1, sw_xr4 hm hn K n (n + 1) 0 row (by omega) (by omega)⟩
/-- 1 where the stretch (i, j) counts, else 0 -/
def sw_tN (F : Nat → Nat → Nat) (i j : Nat) : Nat := if sw_tB F i j = true then 1 else 0
theorem sw_xtight1 {post : Int32 → SX → Prop} {a b row : Nat → Int32} {m n i j : Nat} (hm : m ≤ 10) (hn : n ≤ 14) (hij : i ≤ j) (hj : j ≤ n)
    (K : ∀ row', post (nI (sw_tN (sw_F a b n m) i j)) (nI m, nI n, a, b, row')) : wpX_isTight post (nI m, nI n, a, b, row) (nI i) (nI j) := by
  unfold wpX_isTight
  dsimp only
  refine pk_eq i j (fun e => ?_) (fun e => ?_)
  · have h := K row
    rw [sw_tN, if_pos (by unfold sw_tB; rw [decide_eq_true e]; rfl)] at h
    exact h
  · obtain ⟨j, rfl⟩ : ∃ g, j = g + 1 := ⟨j - 1, by omega⟩
    have b0 := sw_Cb a b n 0 m i (j + 1 - i)
    have b1 := sw_Cb a b n 0 m (i + 1) (j + 1 - (i + 1))
    have b2 := sw_Cb a b n 0 m i (j - i)
    rw [nI_1 i, nI_pred]
    refine sw_xcommon 0 m i (j + 1 - i) hn (by omega) (by omega) (by omega) (by omega) (by omega) (fun row1 => ?_)
    refine sw_xcommon 0 m (i + 1) (j + 1 - (i + 1)) hn (by omega) (by omega) (by omega) (by omega) (by omega) (fun row2 => ?_)
    refine sw_xcommon 0 m i (j - i) hn (by omega) (by omega) (by omega) (by omega) (by omega) (fun row3 => ?_)
    have h := K row3
    unfold sw_tN sw_tB at h
    rw [decide_eq_false e, Bool.false_or, Nat.add_sub_cancel] at h
    refine pk_le (sw_F a b n m i (j + 1)) (sw_F a b n m (i + 1) (j + 1)) (fun c => ?_) (fun c => ?_) rfl rfl (Nat.lt_of_le_of_lt b0 (by omega)) (Nat.lt_of_le_of_lt b1 (by omega))
    · rw [decide_eq_false (Nat.not_lt.mpr c)] at h
      exact h
    · rw [decide_eq_true c, Bool.true_and] at h
      refine pk_le (sw_F a b n m i (j + 1)) (sw_F a b n m i j) (fun c2 => ?_) (fun c2 => ?_) rfl rfl (Nat.lt_of_le_of_lt b0 (by omega)) (Nat.lt_of_le_of_lt b2 (by omega))
      · rw [decide_eq_false (Nat.not_lt.mpr c2)] at h
        exact h
      · rw [decide_eq_true c2] at h
        exact h
theorem sw_tN01 (F : Nat → Nat → Nat) (i j : Nat) : sw_tN F i j = 0 ∨ sw_tN F i j = 1 := by
  unfold sw_tN
  by_cases c : sw_tB F i j = true
  · exact Or.inr (if_pos c)
  · exact Or.inl (if_neg c)
theorem sw_xt14 {post : Int32 → SX → Prop} {J : Int32 → Int32 → Int32 → Int32 → (Nat → Int32) → (Nat → Int32) → (Nat → Int32) → Prop} {a b : Nat → Int32} {m n i c : Nat} (hm : m ≤ 10) (hn : n ≤ 14) (hi : i ≤ n)
    (K : ∀ row, J (nI (c + sw_in (sw_tN (sw_F a b n m) i) i (n + 1 - i))) (nI (i + 1)) (nI m) (nI n) a b row) :
    ∀ (d f j : Nat) (row : Nat → Int32), i + j + d = n + 1 → d < f → wX_tight_14 post J (nI i) f (nI (c + sw_in (sw_tN (sw_F a b n m) i) i j)) (nI (i + j)) (nI m) (nI n) a b row := by
  intro d
  induction d with
  | zero =>
    intro f j row hj hf
    obtain ⟨f, rfl⟩ : ∃ g, f = g + 1 := ⟨f - 1, by omega⟩
    obtain rfl : j = n + 1 - i := by omega
    exact pk_lt n (i + (n + 1 - i)) (fun _ => nm_r (nI_1 i) (K row)) (fun h => absurd h (by omega))
  | succ d ih =>
    intro f j row hj hf
    obtain ⟨f, rfl⟩ : ∃ g, f = g + 1 := ⟨f - 1, by omega⟩
    refine pk_lt n (i + j) (fun h => absurd h (by omega)) (fun _ => ?_)
    refine sw_xtight1 hm hn (by omega) (by omega) (fun row' => ?_)
    have h := ih f (j + 1) row' (by omega) (by omega)
    rw [sw_in] at h
    rcases sw_tN01 (sw_F a b n m) i (i + j) with e | e
    · rw [e] at h ⊢
      exact br_t nI_0 (nm_r (nI_1 (i + j)) h)
    · rw [e] at h ⊢
      exact br_f (nI_ne0 (by omega) (by omega)) (nm_r (nI_1 _) (nm_r (nI_1 (i + j)) h))
theorem sw_xt4 {post : Int32 → SX → Prop} {a b : Nat → Int32} {m n : Nat} (hm : m ≤ 10) (hn : n ≤ 14)
    (K : ∀ row, post (nI (sw_out (sw_tN (sw_F a b n m)) n (n + 1))) (nI m, nI n, a, b, row)) :
    ∀ (d f i : Nat) (row : Nat → Int32), i + d = n + 1 → d < f → wX_tight_4 post f (nI (sw_out (sw_tN (sw_F a b n m)) n i)) (nI i) (nI m) (nI n) a b row := by
  intro d
  induction d with
  | zero =>
    intro f i row hi hf
    obtain ⟨f, rfl⟩ : ∃ g, f = g + 1 := ⟨f - 1, by omega⟩
    obtain rfl : i = n + 1 := by omega
    exact pk_lt n (n + 1) (fun _ => K row) (fun h => absurd h (by omega))
  | succ d ih =>
    intro f i row hi hf
    obtain ⟨f, rfl⟩ : ∃ g, f = g + 1 := ⟨f - 1, by omega⟩
    refine pk_lt n i (fun h => absurd h (by omega)) (fun _ => ⟨n + 2, ?_⟩)
    exact sw_xt14 hm hn (by omega) (fun row' => ih f (i + 1) row' (by omega) (by omega)) (n + 1 - i) (n + 2) 0 row (by omega) (by omega)
theorem sw_xtight {post : Int32 → SX → Prop} {a b row : Nat → Int32} {m n : Nat} (hm : m ≤ 10) (hn : n ≤ 14)
    (K : ∀ row', post (nI (sw_out (sw_tN (sw_F a b n m)) n (n + 1))) (nI m, nI n, a, b, row')) : wpX_tight post (nI m, nI n, a, b, row) := by
  unfold wpX_tight
  dsimp only
  exact ⟨n + 2, sw_xt4 hm hn K (n + 1) (n + 2) 0 row (by omega) (by omega)⟩
end
section
/-! the reference's scans: nearest, nearestAt, widest, shortest, rotated, isTight, tight -/
theorem sw_yn17 {post : Int32 → SY → Prop} {J : Int32 → Int32 → Int32 → Int32 → (Nat → Int32) → (Nat → Int32) → (Nat → Int32) → (Nat → Int32) → Prop} {a b ofs : Nat → Int32} {m n p q i : Nat} (hm : m ≤ 10) (hn : n ≤ 14) (hi : i ≤ n) (hF : sw_First (sw_H a b m) n p q)
    (K : ∀ tab l, l ≤ m → sw_NI (sw_H a b m) p q (i + 1) (i + 1) l → J (nI l) (nI (i + 1)) (nI m) (nI n) a b tab ofs) :
    ∀ (d f j l : Nat) (tab : Nat → Int32), j + d = n + 1 → i ≤ j → d < f → l ≤ m → sw_NI (sw_H a b m) p q i j l → wY_nearest_17 post J (nI i) f (nI l) (nI j) (nI m) (nI n) a b tab ofs := by
  intro d
  induction d with
  | zero =>
    intro f j l tab hj hij hf hl hN
    obtain ⟨f, rfl⟩ : ∃ g, f = g + 1 := ⟨f - 1, by omega⟩
    obtain rfl : j = n + 1 := by omega
    exact pk_lt n (n + 1) (fun _ => nm_r (nI_1 i) (K tab l hl (sw_NIr hF hN))) (fun h => absurd h (by omega))
  | succ d ih =>
    intro f j l tab hj hij hf hl hN
    obtain ⟨f, rfl⟩ : ∃ g, f = g + 1 := ⟨f - 1, by omega⟩
    have hb := sw_Hb a b m i j
    refine pk_lt n j (fun h => absurd h (by omega)) (fun _ => ?_)
    rw [pk_sub hij]
    refine sw_ychanges 0 m i (j - i) (by omega) (by omega) (fun tab' => ?_)
    refine sw_yleast l (sw_H a b m i j) (by omega) (by omega) (nm_r (nI_1 j) ?_)
    exact ih f (j + 1) _ tab' (by omega) (by omega) (by omega) (by omega) (sw_NIs hF hij (by omega) hN)
theorem sw_yn7 {post : Int32 → SY → Prop} {a b ofs : Nat → Int32} {m n p q : Nat} (hm : m ≤ 10) (hn : n ≤ 14) (hF : sw_First (sw_H a b m) n p q)
    (K : ∀ tab, post (nI (sw_H a b m p q)) (nI m, nI n, a, b, tab, ofs)) :
    ∀ (d f i l : Nat) (tab : Nat → Int32), i + d = n + 1 → d < f → l ≤ m → sw_NI (sw_H a b m) p q i i l → wY_nearest_7 post f (nI l) (nI i) (nI m) (nI n) a b tab ofs := by
  intro d
  induction d with
  | zero =>
    intro f i l tab hi hf hl hN
    obtain ⟨f, rfl⟩ : ∃ g, f = g + 1 := ⟨f - 1, by omega⟩
    obtain rfl : i = n + 1 := by omega
    obtain rfl := sw_NIe hF hN
    exact pk_lt n (n + 1) (fun _ => K tab) (fun h => absurd h (by omega))
  | succ d ih =>
    intro f i l tab hi hf hl hN
    obtain ⟨f, rfl⟩ : ∃ g, f = g + 1 := ⟨f - 1, by omega⟩
    exact pk_lt n i (fun h => absurd h (by omega)) (fun _ => ⟨n + 2, sw_yn17 hm hn (by omega) hF (fun tab' l' hl' hN' => ih f (i + 1) l' tab' (by omega) (by omega) hl' hN') (n + 1 - i) (n + 2) i l tab (by omega) (by omega) (by omega) hl hN⟩)
theorem sw_ynearest {post : Int32 → SY → Prop} {a b tab ofs : Nat → Int32} {m n p q : Nat} (hm : m ≤ 10) (hn : n ≤ 14) (hF : sw_First (sw_H a b m) n p q)
    (K : ∀ tab', post (nI (sw_H a b m p q)) (nI m, nI n, a, b, tab', ofs)) : wpY_nearest post (nI m, nI n, a, b, tab, ofs) := by
  unfold wpY_nearest
  dsimp only
  have h := hF.2.2.1 0 0 (Nat.le_refl 0) (Nat.zero_le n)
  rw [sw_H0] at h
  exact ⟨n + 2, sw_yn7 hm hn hF K (n + 1) (n + 2) 0 m tab (by omega) (by omega) (Nat.le_refl m) ⟨h, fun c => by omega⟩⟩
theorem sw_ya17 {post : Int32 → SY → Prop} {J : Int32 → Int32 → Int32 → (Nat → Int32) → (Nat → Int32) → (Nat → Int32) → (Nat → Int32) → Prop} {a b ofs : Nat → Int32} {m n p q i : Nat} (hm : m ≤ 10) (hn : n ≤ 14) (hi : i ≤ n) (hF : sw_First (sw_H a b m) n p q)
    (hP : ∀ tab, post (nI (16 * p + q)) (nI m, nI n, a, b, tab, ofs))
    (K : ∀ tab, i + 1 ≤ p → J (nI (i + 1)) (nI m) (nI n) a b tab ofs) :
    ∀ (d f j : Nat) (tab : Nat → Int32), j + d = n + 1 → i ≤ j → d < f → ¬ (p < i ∨ (p = i ∧ q < j)) → wY_nearestAt_17 post J (nI (sw_H a b m p q)) (nI i) f (nI j) (nI m) (nI n) a b tab ofs := by
  intro d
  have hF1 := hF.1
  have hF2 := hF.2.1
  have hbp := sw_Hb a b m p q
  induction d with
  | zero =>
    intro f j tab hj hij hf hN
    obtain ⟨f, rfl⟩ : ∃ g, f = g + 1 := ⟨f - 1, by omega⟩
    obtain rfl : j = n + 1 := by omega
    exact pk_lt n (n + 1) (fun _ => nm_r (nI_1 i) (K tab (by omega))) (fun h => absurd h (by omega))
  | succ d ih =>
    intro f j tab hj hij hf hN
    obtain ⟨f, rfl⟩ : ∃ g, f = g + 1 := ⟨f - 1, by omega⟩
    have hb := sw_Hb a b m i j
    refine pk_lt n j (fun h => absurd h (by omega)) (fun _ => ?_)
    rw [pk_sub hij]
    refine sw_ychanges 0 m i (j - i) (by omega) (by omega) (fun tab' => ?_)
    refine pk_eq (sw_H a b m i j) (sw_H a b m p q) (fun c => ?_) (fun c => nm_r (nI_1 j) ?_)
    · rw [sw_16]
      by_cases e : p = i ∧ q = j
      · obtain ⟨rfl, rfl⟩ := e
        exact hP tab'
      · have := hF.2.2.2 i j hij (by omega) (by omega)
        omega
    · refine ih f (j + 1) tab' (by omega) (by omega) (by omega) ?_
      by_cases e : p = i ∧ q = j
      · obtain ⟨rfl, rfl⟩ := e
        exact absurd rfl c
      · omega
theorem sw_ya7 {post : Int32 → SY → Prop} {a b ofs : Nat → Int32} {m n p q : Nat} (hm : m ≤ 10) (hn : n ≤ 14) (hF : sw_First (sw_H a b m) n p q)
    (hP : ∀ tab, post (nI (16 * p + q)) (nI m, nI n, a, b, tab, ofs)) :
    ∀ (d f i : Nat) (tab : Nat → Int32), i + d = n + 1 → d < f → i ≤ p → wY_nearestAt_7 post (nI (sw_H a b m p q)) f (nI i) (nI m) (nI n) a b tab ofs := by
  intro d
  have hF1 := hF.1
  have hF2 := hF.2.1
  induction d with
  | zero => intro f i tab hi hf hN; omega
  | succ d ih =>
    intro f i tab hi hf hN
    obtain ⟨f, rfl⟩ : ∃ g, f = g + 1 := ⟨f - 1, by omega⟩
    exact pk_lt n i (fun h => absurd h (by omega)) (fun _ => ⟨n + 2, sw_ya17 hm hn (by omega) hF hP (fun tab' h => ih f (i + 1) tab' (by omega) (by omega) h) (n + 1 - i) (n + 2) i tab (by omega) (by omega) (by omega) (by omega)⟩)
theorem sw_ynearestAt {post : Int32 → SY → Prop} {a b tab ofs : Nat → Int32} {m n p q : Nat} (hm : m ≤ 10) (hn : n ≤ 14) (hF : sw_First (sw_H a b m) n p q)
    (K : ∀ tab', post (nI (16 * p + q)) (nI m, nI n, a, b, tab', ofs)) : wpY_nearestAt post (nI m, nI n, a, b, tab, ofs) := by
  unfold wpY_nearestAt
  dsimp only
  exact sw_ynearest hm hn hF (fun tab' => ⟨n + 2, sw_ya7 hm hn hF K (n + 1) (n + 2) 0 tab' (by omega) (by omega) (Nat.zero_le p)⟩)
theorem sw_yw19 {post : Int32 → SY → Prop} {a b ofs : Nat → Int32} {m n w : Nat} (hm : m ≤ 10) (hn : n ≤ 14) (hw : w ≤ n)
    (K : ∀ tab, post (nI (sw_W a b n m w)) (nI m, nI n, a, b, tab, ofs)) :
    ∀ (d f i : Nat) (tab : Nat → Int32), i + d = n + 1 - w → d < f → wY_widest_19 post (nI w) f (nI (sw_G (fun i => sw_C a b n 0 m i w) i)) (nI i) (nI m) (nI n) a b tab ofs := by
  intro d
  induction d with
  | zero =>
    intro f i tab hi hf
    obtain ⟨f, rfl⟩ : ∃ g, f = g + 1 := ⟨f - 1, by omega⟩
    obtain rfl : i = n + 1 - w := by omega
    exact pk_lt n (n + 1 - w + w) (fun _ => K tab) (fun h => absurd h (by omega)) rfl (nI_add _ _)
  | succ d ih =>
    intro f i tab hi hf
    obtain ⟨f, rfl⟩ : ∃ g, f = g + 1 := ⟨f - 1, by omega⟩
    have h1 := sw_Gb (fun i => sw_C a b n 0 m i w) m (fun i => sw_Cb a b n 0 m i w) i
    have h2 := sw_Cb a b n 0 m i w
    refine pk_lt n (i + w) (fun h => absurd h (by omega)) (fun _ => ?_) rfl (nI_add _ _)
    refine sw_ycommon 0 m i w hn hw (by omega) (by omega) (fun tab' => ?_)
    have h := ih f (i + 1) tab' (by omega) (by omega)
    rw [sw_G] at h
    refine pk_le (sw_C a b n 0 m i w) (sw_G (fun i => sw_C a b n 0 m i w) i) (fun c => nm_r (nI_1 i) ?_) (fun c => nm_r (nI_1 i) ?_)
    · rw [Nat.max_eq_left c] at h
      exact h
    · rw [Nat.max_eq_right (Nat.le_of_lt c)] at h
      exact h
theorem sw_ywidest {post : Int32 → SY → Prop} {a b tab ofs : Nat → Int32} {m n : Nat} (w : Nat) (hm : m ≤ 10) (hn : n ≤ 14) (hw : w ≤ n)
    (K : ∀ tab', post (nI (sw_W a b n m w)) (nI m, nI n, a, b, tab', ofs)) : wpY_widest post (nI m, nI n, a, b, tab, ofs) (nI w) := by
  unfold wpY_widest
  dsimp only
  refine br_f (nI_pos (by omega)) (br_t (nI_le hw (by omega)) ⟨n + 2, ?_⟩)
  exact sw_yw19 hm hn hw K (n + 1 - w) (n + 2) 0 tab (by omega) (by omega)
theorem sw_ys9 {post : Int32 → SY → Prop} {a b ofs : Nat → Int32} {m n : Nat} {k : Int32} (hm : m ≤ 10) (hn : n ≤ 14) :
    ∀ (d f w : Nat) (tab : Nat → Int32), w + d = n + 1 → d < f → (∀ tab', post (sw_sh (sw_W a b n m) k d w) (nI m, nI n, a, b, tab', ofs)) → wY_shortest_9 post k f (nI w) (nI m) (nI n) a b tab ofs := by
  intro d
  induction d with
  | zero =>
    intro f w tab hw hf K
    obtain ⟨f, rfl⟩ : ∃ g, f = g + 1 := ⟨f - 1, by omega⟩
    exact pk_lt n w (fun _ => K tab) (fun h => absurd h (by omega))
  | succ d ih =>
    intro f w tab hw hf K
    obtain ⟨f, rfl⟩ : ∃ g, f = g + 1 := ⟨f - 1, by omega⟩
    refine pk_lt n w (fun h => absurd h (by omega)) (fun _ => ?_)
    refine sw_ywidest w hm hn (by omega) (fun tab' => ?_)
    by_cases c : nI (sw_W a b n m w) < k
    · refine br_t c (nm_r (nI_1 w) (ih f (w + 1) tab' (by omega) (by omega) (fun tab2 => ?_)))
      have h := K tab2
      rw [sw_sh_t c] at h
      exact h
    · refine br_f c ?_
      have h := K tab'
      rw [sw_sh_f c] at h
      exact h
theorem sw_W0 (a b : Nat → Int32) (n m : Nat) : sw_W a b n m 0 = 0 := sw_G0 _ (fun i => sw_C0 a b n 0 m i) _
theorem sw_pos1 (k : Int32) : (1 : Int32) ≤ k ↔ (0 : Int32) < k := by
  rw [Int32.le_iff_toInt_le, Int32.lt_iff_toInt_lt, show (1 : Int32).toInt = 1 from by decide, show (0 : Int32).toInt = 0 from by decide]
  omega
theorem sw_yshortest {post : Int32 → SY → Prop} {a b tab ofs : Nat → Int32} {m n : Nat} {k : Int32} (hm : m ≤ 10) (hn : n ≤ 14)
    (K : ∀ tab', post (sw_sh (sw_W a b n m) k (n + 1) 0) (nI m, nI n, a, b, tab', ofs)) : wpY_shortest post (nI m, nI n, a, b, tab, ofs) k := by
  unfold wpY_shortest
  dsimp only
  by_cases c : (1 : Int32) ≤ k
  · have c2 : nI (sw_W a b n m 0) < k := by
      rw [sw_W0]
      exact (sw_pos1 k).mp c
    refine br_t c ⟨n + 2, sw_ys9 hm hn n (n + 2) 1 tab (by omega) (by omega) (fun tab' => ?_)⟩
    have h := K tab'
    rw [sw_sh_t c2] at h
    exact h
  · have c2 : ¬ nI (sw_W a b n m 0) < k := by
      rw [sw_W0]
      exact fun z => c ((sw_pos1 k).mpr z)
    refine br_f c ?_
    have h := K tab
    rw [sw_sh_f c2] at h
    exact h
theorem sw_yr4 {post : Int32 → SY → Prop} {a b ofs : Nat → Int32} {m n : Nat} (hm : m ≤ 10) (hn : n ≤ 14)
    (K : ∀ tab, post (nI (sw_G (fun i => sw_C a b n 0 m i n) n)) (nI m, nI n, a, b, tab, ofs)) :
    ∀ (d f i : Nat) (tab : Nat → Int32), i + d = n → d < f → wY_rotated_4 post f (nI (sw_G (fun i => sw_C a b n 0 m i n) i)) (nI i) (nI m) (nI n) a b tab ofs := by
  intro d
  induction d with
  | zero =>
    intro f i tab hi hf
    obtain ⟨f, rfl⟩ : ∃ g, f = g + 1 := ⟨f - 1, by omega⟩
    obtain rfl : i = n := by omega
    exact pk_le i i (fun _ => K tab) (fun h => absurd h (by omega))
  | succ d ih =>
    intro f i tab hi hf
    obtain ⟨f, rfl⟩ : ∃ g, f = g + 1 := ⟨f - 1, by omega⟩
    have h1 := sw_Gb (fun i => sw_C a b n 0 m i n) m (fun i => sw_Cb a b n 0 m i n) i
    have h2 := sw_Cb a b n 0 m i n
    refine pk_le n i (fun h => absurd h (by omega)) (fun _ => ?_)
    refine sw_ycommon 0 m i n hn (Nat.le_refl n) (by omega) (by omega) (fun tab' => ?_)
    have h := ih f (i + 1) tab' (by omega) (by omega)
    rw [sw_G] at h
    refine pk_le (sw_C a b n 0 m i n) (sw_G (fun i => sw_C a b n 0 m i n) i) (fun c => nm_r (nI_1 i) ?_) (fun c => nm_r (nI_1 i) ?_)
    · rw [Nat.max_eq_left c] at h
      exact h
    · rw [Nat.max_eq_right (Nat.le_of_lt c)] at h
      exact h
theorem sw_yrotated {post : Int32 → SY → Prop} {a b tab ofs : Nat → Int32} {m n : Nat} (hm : m ≤ 10) (hn : n ≤ 14)
    (K : ∀ tab', post (nI (sw_G (fun i => sw_C a b n 0 m i n) n)) (nI m, nI n, a, b, tab', ofs)) : wpY_rotated post (nI m, nI n, a, b, tab, ofs) := by
  unfold wpY_rotated
  dsimp only
  exact ⟨n + 1, sw_yr4 hm hn K n (n + 1) 0 tab (by omega) (by omega)⟩
end
section
/-! the reference's isTight and tight -/
def sw_TI (F : Nat → Nat → Nat) (i j k l : Nat) : Prop := ∀ k' l', i ≤ k' → k' ≤ l' → l' ≤ j → (k' < k ∨ (k' = k ∧ l' < l)) → (k' ≠ i ∨ l' ≠ j) → F k' l' < F i j
theorem sw_TIs {F : Nat → Nat → Nat} {i j k l : Nat} (H : sw_TI F i j k l) (h : (k ≠ i ∨ l ≠ j) → F k l < F i j) : sw_TI F i j k (l + 1) := by
  intro k' l' h1 h2 h3 h4 h5
  by_cases e : k' = k ∧ l' = l
  · obtain ⟨rfl, rfl⟩ := e
    exact h h5
  · exact H k' l' h1 h2 h3 (by omega) h5
theorem sw_TIr {F : Nat → Nat → Nat} {i j k : Nat} (H : sw_TI F i j k (j + 1)) : sw_TI F i j (k + 1) (k + 1) := by
  intro k' l' h1 h2 h3 h4 h5
  exact H k' l' h1 h2 h3 (by omega) h5
def sw_OF (F : Nat → Nat → Nat) (n : Nat) (ofs : Nat → Int32) (i j : Nat) : Prop := ∀ k l, k ≤ l → l ≤ n → (k < i ∨ (k = i ∧ l < j)) → ofs (k * 15 + l) = nI (F k l)
theorem sw_yt32 {post : Int32 → Prop} {J2 J10 : Int32 → Prop} {fm fn : Int32} {a b tab ofs : Nat → Int32} {F : Nat → Nat → Nat} {i j k l : Nat} (hij : i ≤ j) (hj : j ≤ 14) (hik : i ≤ k) (hkl : k ≤ l) (hl : l ≤ j) (ho : k ≠ i ∨ l ≠ j)
    (b1 : F k l ≤ 10) (b2 : F i j ≤ 10) (e1 : ofs (k * 15 + l) = nI (F k l)) (e2 : ofs (i * 15 + j) = nI (F i j)) (h0 : ¬ sw_T F i j → post 0)
    (K : F k l < F i j → J10 (nI (l + 1))) : wY_isTight_32 post J2 J10 (nI i) (nI j) (nI k) (nI l) 1 fm fn a b tab ofs := by
  unfold wY_isTight_32
  rw [sw_ix, sw_ix, nI_clamp (show k * 15 + l < 2 ^ 31 by omega), nI_clamp (show i * 15 + j < 2 ^ 31 by omega), e1, e2]
  refine br_f (by decide) ⟨vp_in_nI (by omega) (by omega), vp_in_nI (by omega) (by omega), ?_⟩
  refine pk_lt (F k l) (F i j) (fun c => nm_r (nI_1 l) (K c)) (fun c => h0 (fun T => ?_))
  have := T k l hik hkl hl ho
  omega
theorem sw_yt10 {post : Int32 → Prop} {J2 : Int32 → Prop} {fm fn : Int32} {a b tab ofs : Nat → Int32} {F : Nat → Nat → Nat} {n i j k : Nat} (hn : n ≤ 14) (hij : i ≤ j) (hj : j ≤ n) (hik : i ≤ k) (hkj : k ≤ j)
    (hb : ∀ k l, F k l ≤ 10) (hO : ∀ k l, k ≤ l → l ≤ n → ofs (k * 15 + l) = nI (F k l)) (h0 : ¬ sw_T F i j → post 0)
    (K : sw_TI F i j (k + 1) (k + 1) → J2 (nI (k + 1))) :
    ∀ (d f l : Nat), l + d = j + 1 → k ≤ l → d < f → sw_TI F i j k l → wY_isTight_10 post J2 (nI i) (nI j) (nI k) fm fn a b tab ofs f (nI l) := by
  intro d
  induction d with
  | zero =>
    intro f l hl hkl hf hT
    obtain ⟨f, rfl⟩ : ∃ g, f = g + 1 := ⟨f - 1, by omega⟩
    obtain rfl : l = j + 1 := by omega
    exact pk_lt j (j + 1) (fun _ => nm_r (nI_1 k) (K (sw_TIr hT))) (fun h => absurd h (by omega))
  | succ d ih =>
    intro f l hl hkl hf hT
    obtain ⟨f, rfl⟩ : ∃ g, f = g + 1 := ⟨f - 1, by omega⟩
    have other : (k ≠ i ∨ l ≠ j) → wY_isTight_32 post J2 (wY_isTight_10 post J2 (nI i) (nI j) (nI k) fm fn a b tab ofs f) (nI i) (nI j) (nI k) (nI l) 1 fm fn a b tab ofs :=
      fun ho => sw_yt32 hij (by omega) hik hkl (by omega) ho (hb k l) (hb i j) (hO k l hkl (by omega)) (hO i j hij hj) h0 (fun c => ih f (l + 1) (by omega) (by omega) (by omega) (sw_TIs hT (fun _ => c)))
    refine pk_lt j l (fun h => absurd h (by omega)) (fun _ => ?_)
    refine pk_eq k i (fun c => ?_) (fun c => other (Or.inl c))
    refine pk_eq l j (fun c2 => ?_) (fun c2 => other (Or.inr c2))
    exact br_t rfl (nm_r (nI_1 l) (ih f (l + 1) (by omega) (by omega) (by omega) (sw_TIs hT (fun z => by omega))))
theorem sw_yt2 {post : Int32 → Prop} {fm fn : Int32} {a b tab ofs : Nat → Int32} {F : Nat → Nat → Nat} {n i j : Nat} (hn : n ≤ 14) (hij : i ≤ j) (hj : j ≤ n)
    (hb : ∀ k l, F k l ≤ 10) (hO : ∀ k l, k ≤ l → l ≤ n → ofs (k * 15 + l) = nI (F k l)) (h0 : ¬ sw_T F i j → post 0) (h1 : sw_T F i j → post 1) :
    ∀ (d f k : Nat), k + d = j + 1 → i ≤ k → d < f → sw_TI F i j k k → wY_isTight_2 post (nI i) (nI j) fm fn a b tab ofs f (nI k) := by
  intro d
  induction d with
  | zero =>
    intro f k hk hik hf hT
    obtain ⟨f, rfl⟩ : ∃ g, f = g + 1 := ⟨f - 1, by omega⟩
    exact pk_lt j k (fun _ => h1 (fun k' l' g1 g2 g3 g4 => hT k' l' g1 g2 g3 (by omega) g4)) (fun h => absurd h (by omega))
  | succ d ih =>
    intro f k hk hik hf hT
    obtain ⟨f, rfl⟩ : ∃ g, f = g + 1 := ⟨f - 1, by omega⟩
    exact pk_lt j k (fun h => absurd h (by omega)) (fun _ => ⟨j + 2, sw_yt10 hn hij hj hik (by omega) hb hO h0 (fun hT' => ih f (k + 1) (by omega) (by omega) (by omega) hT') (j + 1 - k) (j + 2) k (by omega) (by omega) (by omega) hT⟩)
theorem sw_ytight1 {post : Int32 → Prop} {a b tab ofs : Nat → Int32} {m n i j : Nat} (hm : m ≤ 10) (hn : n ≤ 14) (hij : i ≤ j) (hj : j ≤ n)
    (hO : ∀ k l, k ≤ l → l ≤ n → ofs (k * 15 + l) = nI (sw_F a b n m k l))
    (K : post (nI (sw_tN (sw_F a b n m) i j))) : wpY_isTight post (nI m, nI n, a, b, tab, ofs) (nI i) (nI j) := by
  unfold wpY_isTight
  dsimp only
  have ht := sw_tT (sw_F a b n m) (sw_F1 a b n m) (sw_F2 a b n m) i j hij
  refine ⟨j + 2, sw_yt2 (F := sw_F a b n m) hn hij hj (fun k l => Nat.le_trans (sw_Cb a b n 0 m k (l - k)) hm) hO (fun c => ?_) (fun c => ?_) (j + 1 - i) (j + 2) i (by omega) (Nat.le_refl i) (by omega) ?_⟩
  · rw [sw_tN, if_neg (fun z => c (ht.mp z))] at K
    exact K
  · rw [sw_tN, if_pos (ht.mpr c)] at K
    exact K
  · intro k' l' h1 h2 h3 h4 h5
    omega
theorem sw_yt70 {post : Int32 → SY → Prop} {J : Int32 → Int32 → Prop} {a b tab ofs : Nat → Int32} {m n i c : Nat} (hm : m ≤ 10) (hn : n ≤ 14) (hi : i ≤ n)
    (hO : ∀ k l, k ≤ l → l ≤ n → ofs (k * 15 + l) = nI (sw_F a b n m k l))
    (K : J (nI (c + sw_in (sw_tN (sw_F a b n m) i) i (n + 1 - i))) (nI (i + 1))) :
    ∀ (d f j : Nat), i + j + d = n + 1 → d < f → wY_tight_70 post J (nI i) (nI m) (nI n) a b tab ofs f (nI (c + sw_in (sw_tN (sw_F a b n m) i) i j)) (nI (i + j)) := by
  intro d
  induction d with
  | zero =>
    intro f j hj hf
    obtain ⟨f, rfl⟩ : ∃ g, f = g + 1 := ⟨f - 1, by omega⟩
    obtain rfl : j = n + 1 - i := by omega
    exact pk_lt n (i + (n + 1 - i)) (fun _ => nm_r (nI_1 i) K) (fun h => absurd h (by omega))
  | succ d ih =>
    intro f j hj hf
    obtain ⟨f, rfl⟩ : ∃ g, f = g + 1 := ⟨f - 1, by omega⟩
    refine pk_lt n (i + j) (fun h => absurd h (by omega)) (fun _ => ?_)
    refine sw_ytight1 hm hn (by omega) (by omega) hO ?_
    have h := ih f (j + 1) (by omega) (by omega)
    rw [sw_in] at h
    rcases sw_tN01 (sw_F a b n m) i (i + j) with e | e
    · rw [e] at h ⊢
      exact br_t nI_0 (nm_r (nI_1 (i + j)) h)
    · rw [e] at h ⊢
      exact br_f (nI_ne0 (by omega) (by omega)) (nm_r (nI_1 _) (nm_r (nI_1 (i + j)) h))
theorem sw_yt60 {post : Int32 → SY → Prop} {a b tab ofs : Nat → Int32} {m n : Nat} (hm : m ≤ 10) (hn : n ≤ 14)
    (hO : ∀ k l, k ≤ l → l ≤ n → ofs (k * 15 + l) = nI (sw_F a b n m k l))
    (K : post (nI (sw_out (sw_tN (sw_F a b n m)) n (n + 1))) (nI m, nI n, a, b, tab, ofs)) :
    ∀ (d f i : Nat), i + d = n + 1 → d < f → wY_tight_60 post (nI m) (nI n) a b tab ofs f (nI (sw_out (sw_tN (sw_F a b n m)) n i)) (nI i) := by
  intro d
  induction d with
  | zero =>
    intro f i hi hf
    obtain ⟨f, rfl⟩ : ∃ g, f = g + 1 := ⟨f - 1, by omega⟩
    obtain rfl : i = n + 1 := by omega
    exact pk_lt n (n + 1) (fun _ => K) (fun h => absurd h (by omega))
  | succ d ih =>
    intro f i hi hf
    obtain ⟨f, rfl⟩ : ∃ g, f = g + 1 := ⟨f - 1, by omega⟩
    refine pk_lt n i (fun h => absurd h (by omega)) (fun _ => ⟨n + 2, ?_⟩)
    exact sw_yt70 hm hn (by omega) hO (ih f (i + 1) (by omega) (by omega)) (n + 1 - i) (n + 2) 0 (by omega) (by omega)
theorem sw_OFs {F : Nat → Nat → Nat} {n i j : Nat} {ofs : Nat → Int32} {v : Int32} (hn : n ≤ 14) (hij : i ≤ j) (hj : j ≤ n) (H : sw_OF F n ofs i j) (e : v = nI (F i j)) : sw_OF F n (upd ofs (i * 15 + j) v) i (j + 1) := by
  intro k l h1 h2 h3
  by_cases c : k * 15 + l = i * 15 + j
  · obtain ⟨rfl, rfl⟩ : k = i ∧ l = j := ⟨by omega, by omega⟩
    rw [pk_us]
    exact e
  · rw [pk_un c]
    refine H k l h1 h2 ?_
    rcases h3 with h | ⟨rfl, h⟩
    · exact Or.inl h
    · exact Or.inr ⟨rfl, by omega⟩
theorem sw_OFr {F : Nat → Nat → Nat} {n i : Nat} {ofs : Nat → Int32} (H : sw_OF F n ofs i (n + 1)) : sw_OF F n ofs (i + 1) (i + 1) := by
  intro k l h1 h2 h3
  exact H k l h1 h2 (by omega)
theorem sw_yt12 {post : Int32 → SY → Prop} {J : Int32 → Int32 → Int32 → (Nat → Int32) → (Nat → Int32) → (Nat → Int32) → (Nat → Int32) → Prop} {a b : Nat → Int32} {m n i : Nat} (hm : m ≤ 10) (hn : n ≤ 14) (hi : i ≤ n)
    (K : ∀ tab ofs, sw_OF (sw_F a b n m) n ofs (i + 1) (i + 1) → J (nI (i + 1)) (nI m) (nI n) a b tab ofs) :
    ∀ (d f j : Nat) (tab ofs : Nat → Int32), j + d = n + 1 → i ≤ j → d < f → sw_OF (sw_F a b n m) n ofs i j → wY_tight_12 post J (nI i) f (nI j) (nI m) (nI n) a b tab ofs := by
  intro d
  induction d with
  | zero =>
    intro f j tab ofs hj hij hf hO
    obtain ⟨f, rfl⟩ : ∃ g, f = g + 1 := ⟨f - 1, by omega⟩
    obtain rfl : j = n + 1 := by omega
    exact pk_lt n (n + 1) (fun _ => nm_r (nI_1 i) (K tab ofs (sw_OFr hO))) (fun h => absurd h (by omega))
  | succ d ih =>
    intro f j tab ofs hj hij hf hO
    obtain ⟨f, rfl⟩ : ∃ g, f = g + 1 := ⟨f - 1, by omega⟩
    refine pk_lt n j (fun h => absurd h (by omega)) (fun _ => ?_)
    rw [pk_sub hij, sw_ix, nI_clamp (show i * 15 + j < 2 ^ 31 by omega)]
    refine sw_ycommon 0 m i (j - i) hn (by omega) (by omega) (by omega) (fun tab' => ?_)
    exact ⟨vp_in_nI (by omega) (by omega), nm_e (nm_r (nI_1 j) (ih f (j + 1) tab' _ (by omega) (by omega) (by omega) (sw_OFs hn hij (by omega) hO rfl)))⟩
theorem sw_yt2f {post : Int32 → SY → Prop} {a b : Nat → Int32} {m n : Nat} (hm : m ≤ 10) (hn : n ≤ 14)
    (K : ∀ tab ofs, post (nI (sw_out (sw_tN (sw_F a b n m)) n (n + 1))) (nI m, nI n, a, b, tab, ofs)) :
    ∀ (d f i : Nat) (tab ofs : Nat → Int32), i + d = n + 1 → d < f → sw_OF (sw_F a b n m) n ofs i i → wY_tight_2 post f (nI i) (nI m) (nI n) a b tab ofs := by
  intro d
  induction d with
  | zero =>
    intro f i tab ofs hi hf hO
    obtain ⟨f, rfl⟩ : ∃ g, f = g + 1 := ⟨f - 1, by omega⟩
    exact pk_lt n i (fun _ => ⟨n + 2, sw_yt60 hm hn (fun k l h1 h2 => hO k l h1 h2 (by omega)) (K tab ofs) (n + 1) (n + 2) 0 (by omega) (by omega)⟩) (fun h => absurd h (by omega))
  | succ d ih =>
    intro f i tab ofs hi hf hO
    obtain ⟨f, rfl⟩ : ∃ g, f = g + 1 := ⟨f - 1, by omega⟩
    exact pk_lt n i (fun h => absurd h (by omega)) (fun _ => ⟨n + 2, sw_yt12 hm hn (by omega) (fun tab' ofs' hO' => ih f (i + 1) tab' ofs' (by omega) (by omega) hO') (n + 1 - i) (n + 2) i tab ofs (by omega) (by omega) (by omega) hO⟩)
theorem sw_ytight {post : Int32 → SY → Prop} {a b tab ofs : Nat → Int32} {m n : Nat} (hm : m ≤ 10) (hn : n ≤ 14)
    (K : ∀ tab' ofs', post (nI (sw_out (sw_tN (sw_F a b n m)) n (n + 1))) (nI m, nI n, a, b, tab', ofs')) : wpY_tight post (nI m, nI n, a, b, tab, ofs) := by
  unfold wpY_tight
  dsimp only
  exact ⟨n + 2, sw_yt2f hm hn K (n + 1) (n + 2) 0 tab ofs (by omega) (by omega) (fun k l h1 h2 h3 => by omega)⟩
end
section
/-! arguments in and out of their ranges; the shift of B -/
def sw_Let (c : Int32) : Prop := ¬ c < 0 ∧ ¬ (4 : Int32) ≤ c
theorem sw_34 (c : Int32) : (3 : Int32) < c ↔ (4 : Int32) ≤ c := by
  rw [Int32.le_iff_toInt_le, Int32.lt_iff_toInt_lt, show (3 : Int32).toInt = 3 from by decide, show (4 : Int32).toInt = 4 from by decide]
  omega
theorem sw_xlt {post : Int32 → Prop} {c : Int32} (h : sw_Let c) (k : post 1) : wpX_isLetter post c := br_f h.1 (br_f h.2 k)
theorem sw_xln {post : Int32 → Prop} {c : Int32} (h : ¬ sw_Let c) (k : post 0) : wpX_isLetter post c := by
  by_cases c1 : c < 0
  · exact br_t c1 k
  · by_cases c2 : (4 : Int32) ≤ c
    · exact br_f c1 (br_t c2 k)
    · exact absurd ⟨c1, c2⟩ h
theorem sw_ylt {post : Int32 → Prop} {u : SY} {c : Int32} (h : sw_Let c) (k : post 1) : wpY_isLetter post u c := by
  obtain ⟨f_m, f_n, a_a, a_b, a_table, a_of⟩ := u
  exact br_f h.1 (br_f (fun z => h.2 ((sw_34 c).mp z)) k)
theorem sw_yln {post : Int32 → Prop} {u : SY} {c : Int32} (h : ¬ sw_Let c) (k : post 0) : wpY_isLetter post u c := by
  obtain ⟨f_m, f_n, a_a, a_b, a_table, a_of⟩ := u
  by_cases c1 : c < 0
  · exact br_t c1 k
  · by_cases c2 : (4 : Int32) ≤ c
    · exact br_f c1 (br_t ((sw_34 c).mpr c2) k)
    · exact absurd ⟨c1, c2⟩ h
def sw_St (v1 v2 : Int32) (n : Nat) : Prop := ∃ i j, i ≤ j ∧ j ≤ n ∧ v1 = nI i ∧ v2 = nI j
theorem sw_st (v1 v2 : Int32) (n : Nat) (hn : n < 2 ^ 31) (c1 : ¬ v1 < 0) (c2 : ¬ v2 < v1) (c3 : ¬ nI n < v2) : sw_St v1 v2 n := by
  have c4 : ¬ v2 < 0 := by
    rw [Int32.lt_iff_toInt_lt] at c1 c2 ⊢
    have h0 : (0 : Int32).toInt = 0 := by decide
    omega
  obtain ⟨i, hi, rfl⟩ := nI_of c1
  obtain ⟨j, hj, rfl⟩ := nI_of c4
  rw [nI_ltI hj hi] at c2
  rw [nI_ltI hn hj] at c3
  exact ⟨i, j, by omega, by omega, rfl, rfl⟩
theorem sw_xst1 {post : Int32 → Prop} {i j n : Nat} (hn : n < 2 ^ 31) (hij : i ≤ j) (hj : j ≤ n) (k : post 1) : wpX_isStretch post (nI i) (nI j) (nI n) :=
  br_f (nI_pos (by omega)) (br_f (nI_nlt hij (by omega)) (br_f (nI_nlt hj (by omega)) k))
theorem sw_xst0 {post : Int32 → Prop} {v1 v2 : Int32} {n : Nat} (hn : n < 2 ^ 31) (h : ¬ sw_St v1 v2 n) (k : post 0) : wpX_isStretch post v1 v2 (nI n) := by
  by_cases c1 : v1 < 0
  · exact br_t c1 k
  · by_cases c2 : v2 < v1
    · exact br_f c1 (br_t c2 k)
    · by_cases c3 : nI n < v2
      · exact br_f c1 (br_f c2 (br_t c3 k))
      · exact absurd (sw_st v1 v2 n hn c1 c2 c3) h
theorem sw_yst1 {post : Int32 → Prop} {u : SY} {i j n : Nat} (hn : n < 2 ^ 31) (hij : i ≤ j) (hj : j ≤ n) (k : post 1) : wpY_isStretch post u (nI i) (nI j) (nI n) := by
  obtain ⟨f_m, f_n, a_a, a_b, a_table, a_of⟩ := u
  exact br_f (nI_pos (by omega)) (br_f (nI_nlt hij (by omega)) (br_f (nI_nlt hj (by omega)) k))
theorem sw_yst0 {post : Int32 → Prop} {u : SY} {v1 v2 : Int32} {n : Nat} (hn : n < 2 ^ 31) (h : ¬ sw_St v1 v2 n) (k : post 0) : wpY_isStretch post u v1 v2 (nI n) := by
  obtain ⟨f_m, f_n, a_a, a_b, a_table, a_of⟩ := u
  by_cases c1 : v1 < 0
  · exact br_t c1 k
  · by_cases c2 : v2 < v1
    · exact br_f c1 (br_t c2 k)
    · by_cases c3 : nI n < v2
      · exact br_f c1 (br_f c2 (br_t c3 k))
      · exact absurd (sw_st v1 v2 n hn c1 c2 c3) h
/-- B after y of its letters have moved one place down -/
def sw_mv (b : Nat → Int32) : Nat → Nat → Int32
  | 0 => b
  | y + 1 => upd (sw_mv b y) y (sw_mv b y (y + 1))
theorem sw_xsh {post : Int32 → SX → Prop} {x1 m : Int32} {a b row : Nat → Int32} {n : Nat} (hn : n + 1 ≤ 14) (K : post x1 (m, nI n, a, sw_mv b n, row)) :
    ∀ (d f y : Nat), y + d = n → d < f → wX_shiftB_19 post x1 m (nI (n + 1)) f (nI (y + 1)) a (sw_mv b y) row := by
  intro d
  induction d with
  | zero =>
    intro f y hy hf
    obtain ⟨f, rfl⟩ : ∃ g, f = g + 1 := ⟨f - 1, by omega⟩
    obtain rfl : y = n := by omega
    exact pk_le (y + 1) (y + 1) (fun _ => nm_r (nI_pred y) K) (fun h => absurd h (by omega))
  | succ d ih =>
    intro f y hy hf
    obtain ⟨f, rfl⟩ : ∃ g, f = g + 1 := ⟨f - 1, by omega⟩
    refine pk_le (n + 1) (y + 1) (fun h => absurd h (by omega)) (fun _ => ?_)
    rw [nI_pred, nI_clamp (show y < 2 ^ 31 by omega), nI_clamp (show y + 1 < 2 ^ 31 by omega)]
    exact ⟨vp_in_nI (by omega) (by omega), vp_in_nI (by omega) (by omega), nm_e (nm_r (nI_1 (y + 1)) (ih f (y + 1) (by omega) (by omega)))⟩
theorem sw_ysh {post : Int32 → SY → Prop} {x1 m : Int32} {a b tab ofs : Nat → Int32} {n : Nat} (hn : n + 1 ≤ 14) (K : post x1 (m, nI n, a, sw_mv b n, tab, ofs)) :
    ∀ (d f y : Nat), y + d = n → d < f → wY_shiftB_19 post x1 m (nI (n + 1)) f (nI (y + 1)) a (sw_mv b y) tab ofs := by
  intro d
  induction d with
  | zero =>
    intro f y hy hf
    obtain ⟨f, rfl⟩ : ∃ g, f = g + 1 := ⟨f - 1, by omega⟩
    obtain rfl : y = n := by omega
    exact pk_le (y + 1) (y + 1) (fun _ => nm_r (nI_pred y) K) (fun h => absurd h (by omega))
  | succ d ih =>
    intro f y hy hf
    obtain ⟨f, rfl⟩ : ∃ g, f = g + 1 := ⟨f - 1, by omega⟩
    refine pk_le (n + 1) (y + 1) (fun h => absurd h (by omega)) (fun _ => ?_)
    rw [nI_pred, nI_clamp (show y < 2 ^ 31 by omega), nI_clamp (show y + 1 < 2 ^ 31 by omega)]
    exact ⟨vp_in_nI (by omega) (by omega), vp_in_nI (by omega) (by omega), nm_e (nm_r (nI_1 (y + 1)) (ih f (y + 1) (by omega) (by omega)))⟩
/-- both sides hold the same two words; the row, the table and the list of answers are free -/
def i_Rel (k : Nat) (u : SX) (v : SY) : Prop := ∃ (m n : Nat) (a b row tab ofs : Nat → Int32), m ≤ 10 ∧ n ≤ 14 ∧ u = (nI m, nI n, a, b, row) ∧ v = (nI m, nI n, a, b, tab, ofs)
theorem sw_rel {k m n : Nat} {a b row tab ofs : Nat → Int32} (hm : m ≤ 10) (hn : n ≤ 14) : i_Rel k (nI m, nI n, a, b, row) (nI m, nI n, a, b, tab, ofs) := ⟨m, n, a, b, row, tab, ofs, hm, hn, rfl, rfl⟩
end
section
/-! what is owed, method by method -/
theorem i_up {k : Nat} {u : SX} {v : SY} (h : i_Rel k u v) : i_Rel (k + 3) u v := h
theorem i_vc0 : wpX_init (fun u => wpY_init (fun v => i_Rel 0 u v)) := sw_rel (k := 0) (m := 0) (n := 0) (by omega) (by omega)
theorem i_vc_growA {k : Nat} {u : SX} {v : SY} (I : i_Rel k u v) (hk : k + 3 ≤ 1536) (v1 : Int32) : wpX_growA (fun r u' => wpY_growA (fun r' v' => r' = r ∧ i_Rel (k + 3) u' v') v v1) u v1 := by
  obtain ⟨m, n, a, b, row, tab, ofs, hm, hn, rfl, rfl⟩ := I
  unfold wpX_growA
  dsimp only
  by_cases hL : sw_Let v1
  · refine sw_xlt hL (br_f (by decide) ?_)
    refine pk_lt m 10 (fun c => ⟨vp_in_nI c (by omega), nm_r (e' := upd a m v1) (by rw [nI_clamp (by omega)]) (nm_r (nI_1 m) ?_)⟩) (fun c => ?_)
    · unfold wpY_growA
      dsimp only
      refine sw_ylt hL (br_f (by decide) ?_)
      exact pk_eq m 10 (fun e => absurd e (by omega)) (fun _ => ⟨vp_in_nI c (by omega), nm_r (e' := upd a m v1) (by rw [nI_clamp (by omega)]) (nm_r (nI_1 m) ⟨rfl, sw_rel (by omega) hn⟩)⟩)
    · unfold wpY_growA
      dsimp only
      refine sw_ylt hL (br_f (by decide) ?_)
      exact pk_eq m 10 (fun _ => ⟨rfl, sw_rel hm hn⟩) (fun e => absurd (show m = 10 by omega) e)
  · refine sw_xln hL (br_t rfl ?_)
    unfold wpY_growA
    dsimp only
    exact sw_yln hL (br_t rfl ⟨rfl, sw_rel hm hn⟩)
theorem i_vc_growB {k : Nat} {u : SX} {v : SY} (I : i_Rel k u v) (hk : k + 3 ≤ 1536) (v1 : Int32) : wpX_growB (fun r u' => wpY_growB (fun r' v' => r' = r ∧ i_Rel (k + 3) u' v') v v1) u v1 := by
  obtain ⟨m, n, a, b, row, tab, ofs, hm, hn, rfl, rfl⟩ := I
  unfold wpX_growB
  dsimp only
  by_cases hL : sw_Let v1
  · refine sw_xlt hL (br_f (by decide) ?_)
    refine pk_lt n 14 (fun c => ⟨vp_in_nI c (by omega), nm_r (e' := upd b n v1) (by rw [nI_clamp (by omega)]) (nm_r (nI_1 n) ?_)⟩) (fun c => ?_)
    · unfold wpY_growB
      dsimp only
      refine sw_ylt hL (br_f (by decide) ?_)
      exact pk_eq n 14 (fun e => absurd e (by omega)) (fun _ => ⟨vp_in_nI c (by omega), nm_r (e' := upd b n v1) (by rw [nI_clamp (by omega)]) (nm_r (nI_1 n) ⟨rfl, sw_rel hm (by omega)⟩)⟩)
    · unfold wpY_growB
      dsimp only
      refine sw_ylt hL (br_f (by decide) ?_)
      exact pk_eq n 14 (fun _ => ⟨rfl, sw_rel hm hn⟩) (fun e => absurd (show n = 14 by omega) e)
  · refine sw_xln hL (br_t rfl ?_)
    unfold wpY_growB
    dsimp only
    exact sw_yln hL (br_t rfl ⟨rfl, sw_rel hm hn⟩)
theorem i_vc_putA {k : Nat} {u : SX} {v : SY} (I : i_Rel k u v) (hk : k + 3 ≤ 1536) (v1 : Int32) (v2 : Int32) : wpX_putA (fun r u' => wpY_putA (fun r' v' => r' = r ∧ i_Rel (k + 3) u' v') v v1 v2) u v1 v2 := by
  obtain ⟨m, n, a, b, row, tab, ofs, hm, hn, rfl, rfl⟩ := I
  unfold wpX_putA
  dsimp only
  unfold wpY_putA
  dsimp only
  rcases pk_ix v1 (n := m) (by omega) with c | c | ⟨j, hj, rfl⟩
  · exact br_t c (br_t c ⟨rfl, sw_rel hm hn⟩)
  · have c0 : ¬ v1 < 0 := by
      rw [Int32.lt_iff_toInt_lt]
      rw [Int32.le_iff_toInt_le, nI_toInt (by omega)] at c
      have h0 : (0 : Int32).toInt = 0 := by decide
      omega
    exact br_f c0 (br_t c (br_f c0 (br_t c ⟨rfl, sw_rel hm hn⟩)))
  · have c0 : ¬ nI j < 0 := nI_pos (by omega)
    have c1 : ¬ nI m ≤ nI j := nI_ge hj (by omega)
    have hv : vp_in (nI j) 10 := vp_in_nI (by omega) (by omega)
    by_cases hL : sw_Let v2
    · exact br_f c0 (br_f c1 (sw_xlt hL (br_f (by decide) ⟨hv, nm_e ⟨hv, nm_e (br_f c0 (br_f c1 (sw_ylt hL (br_f (by decide) ⟨hv, nm_e ⟨hv, nm_e ⟨rfl, sw_rel hm hn⟩⟩⟩))))⟩⟩)))
    · exact br_f c0 (br_f c1 (sw_xln hL (br_t rfl (br_f c0 (br_f c1 (sw_yln hL (br_t rfl ⟨rfl, sw_rel hm hn⟩)))))))
theorem i_vc_shiftB {k : Nat} {u : SX} {v : SY} (I : i_Rel k u v) (hk : k + 3 ≤ 1536) : wpX_shiftB (fun r u' => wpY_shiftB (fun r' v' => r' = r ∧ i_Rel (k + 3) u' v') v) u := by
  obtain ⟨m, n, a, b, row, tab, ofs, hm, hn, rfl, rfl⟩ := I
  unfold wpX_shiftB
  dsimp only
  unfold wpY_shiftB
  dsimp only
  cases n with
  | zero => exact br_t nI_0 (br_t nI_0 ⟨rfl, sw_rel hm hn⟩)
  | succ n =>
    have c : ¬ nI (n + 1) = 0 := nI_ne0 (by omega) (by omega)
    exact br_f c (nm_e ⟨n + 1, sw_xsh (b := b) hn (br_f c (nm_e ⟨n + 1, sw_ysh (b := b) hn ⟨rfl, sw_rel hm (by omega)⟩ n (n + 1) 0 (by omega) (by omega)⟩)) n (n + 1) 0 (by omega) (by omega)⟩)
theorem i_vc_clear {k : Nat} {u : SX} {v : SY} (I : i_Rel k u v) (hk : k + 3 ≤ 1536) : wpX_clear (fun u' => wpY_clear (fun v' => i_Rel (k + 3) u' v') v) u := by
  obtain ⟨m, n, a, b, row, tab, ofs, hm, hn, rfl, rfl⟩ := I
  exact sw_rel (k := k + 3) (m := 0) (n := 0) (by omega) (by omega)
theorem i_vc_lengths {k : Nat} {u : SX} {v : SY} (I : i_Rel k u v) (hk : k + 3 ≤ 1536) : wpX_lengths (fun r => wpY_lengths (fun r' => r' = r ∧ i_Rel (k + 3) u v) v) u := by
  obtain ⟨m, n, a, b, row, tab, ofs, hm, hn, rfl, rfl⟩ := I
  exact ⟨rfl, sw_rel hm hn⟩
theorem i_vc_commonB {k : Nat} {u : SX} {v : SY} (I : i_Rel k u v) (hk : k + 3 ≤ 1536) (v1 : Int32) (v2 : Int32) : wpX_commonB (fun r u' => wpY_commonB (fun r' v' => r' = r ∧ i_Rel (k + 3) u' v') v v1 v2) u v1 v2 := by
  obtain ⟨m, n, a, b, row, tab, ofs, hm, hn, rfl, rfl⟩ := I
  unfold wpX_commonB
  dsimp only
  unfold wpY_commonB
  dsimp only
  by_cases hS : sw_St v1 v2 n
  · obtain ⟨i, j, hij, hj, rfl, rfl⟩ := hS
    refine sw_xst1 (by omega) hij hj (br_f (by decide) ?_)
    refine sw_xcommon 0 m i (j - i) hn (by omega) (by omega) (by omega) (by omega) (by omega) (fun row' => ?_)
    refine sw_yst1 (by omega) hij hj (br_f (by decide) ?_)
    rw [pk_sub hij]
    exact sw_ycommon 0 m i (j - i) hn (by omega) (by omega) (by omega) (fun tab' => ⟨rfl, sw_rel hm hn⟩)
  · exact sw_xst0 (by omega) hS (br_t rfl (sw_yst0 (by omega) hS (br_t rfl ⟨rfl, sw_rel hm hn⟩)))
theorem i_vc_commonA {k : Nat} {u : SX} {v : SY} (I : i_Rel k u v) (hk : k + 3 ≤ 1536) (v1 : Int32) (v2 : Int32) : wpX_commonA (fun r u' => wpY_commonA (fun r' v' => r' = r ∧ i_Rel (k + 3) u' v') v v1 v2) u v1 v2 := by
  obtain ⟨m, n, a, b, row, tab, ofs, hm, hn, rfl, rfl⟩ := I
  unfold wpX_commonA
  dsimp only
  unfold wpY_commonA
  dsimp only
  by_cases hS : sw_St v1 v2 m
  · obtain ⟨i, j, hij, hj, rfl, rfl⟩ := hS
    refine sw_xst1 (by omega) hij hj (br_f (by decide) ?_)
    refine sw_xcommon i (j - i) 0 n hn (Nat.le_refl n) (by omega) (by omega) (by omega) (by omega) (fun row' => ?_)
    refine sw_yst1 (by omega) hij hj (br_f (by decide) ?_)
    rw [pk_sub hij]
    exact sw_ycommon i (j - i) 0 n hn (Nat.le_refl n) (by omega) (by omega) (fun tab' => ⟨rfl, sw_rel hm hn⟩)
  · exact sw_xst0 (by omega) hS (br_t rfl (sw_yst0 (by omega) hS (br_t rfl ⟨rfl, sw_rel hm hn⟩)))
theorem i_vc_commonEnd {k : Nat} {u : SX} {v : SY} (I : i_Rel k u v) (hk : k + 3 ≤ 1536) (v1 : Int32) (v2 : Int32) : wpX_commonEnd (fun r u' => wpY_commonEnd (fun r' v' => r' = r ∧ i_Rel (k + 3) u' v') v v1 v2) u v1 v2 := by
  obtain ⟨m, n, a, b, row, tab, ofs, hm, hn, rfl, rfl⟩ := I
  unfold wpX_commonEnd
  dsimp only
  unfold wpY_commonEnd
  dsimp only
  by_cases c1 : v1 < 0
  · exact br_t c1 (br_t c1 ⟨rfl, sw_rel hm hn⟩)
  · by_cases c2 : nI m < v1
    · exact br_f c1 (br_t c2 (br_f c1 (br_t c2 ⟨rfl, sw_rel hm hn⟩)))
    · by_cases c3 : v2 < 0
      · exact br_f c1 (br_f c2 (br_t c3 (br_f c1 (br_f c2 (br_t c3 ⟨rfl, sw_rel hm hn⟩)))))
      · by_cases c4 : v2 ≤ nI n
        · obtain ⟨i, hi, rfl⟩ := nI_of c1
          obtain ⟨j, hj, rfl⟩ := nI_of c3
          have d2 := c2
          have d4 := c4
          rw [nI_ltI (by omega) hi] at d2
          rw [nI_leI hj (by omega)] at d4
          rw [pk_sub (show i ≤ m by omega)]
          refine br_f c1 (br_f c2 (br_f c3 (br_t c4 ?_)))
          refine sw_xcommon (m - i) i 0 j hn (by omega) (by omega) (by omega) (by omega) (by omega) (fun row' => ?_)
          refine br_f c1 (br_f c2 (br_f c3 (br_t c4 ?_)))
          exact sw_ycommon (m - i) i 0 j hn (by omega) (by omega) (by omega) (fun tab' => ⟨rfl, sw_rel hm hn⟩)
        · exact br_f c1 (br_f c2 (br_f c3 (br_f c4 (br_f c1 (br_f c2 (br_f c3 (br_f c4 ⟨rfl, sw_rel hm hn⟩)))))))
theorem i_vc_commonBegin {k : Nat} {u : SX} {v : SY} (I : i_Rel k u v) (hk : k + 3 ≤ 1536) (v1 : Int32) (v2 : Int32) : wpX_commonBegin (fun r u' => wpY_commonBegin (fun r' v' => r' = r ∧ i_Rel (k + 3) u' v') v v1 v2) u v1 v2 := by
  obtain ⟨m, n, a, b, row, tab, ofs, hm, hn, rfl, rfl⟩ := I
  unfold wpX_commonBegin
  dsimp only
  unfold wpY_commonBegin
  dsimp only
  by_cases c1 : v1 < 0
  · exact br_t c1 (br_t c1 ⟨rfl, sw_rel hm hn⟩)
  · by_cases c2 : nI m < v1
    · exact br_f c1 (br_t c2 (br_f c1 (br_t c2 ⟨rfl, sw_rel hm hn⟩)))
    · by_cases c3 : v2 < 0
      · exact br_f c1 (br_f c2 (br_t c3 (br_f c1 (br_f c2 (br_t c3 ⟨rfl, sw_rel hm hn⟩)))))
      · by_cases c4 : v2 ≤ nI n
        · obtain ⟨i, hi, rfl⟩ := nI_of c1
          obtain ⟨j, hj, rfl⟩ := nI_of c3
          have d2 := c2
          have d4 := c4
          rw [nI_ltI (by omega) hi] at d2
          rw [nI_leI hj (by omega)] at d4
          rw [pk_sub (show j ≤ n by omega)]
          refine br_f c1 (br_f c2 (br_f c3 (br_t c4 ?_)))
          refine sw_xcommon 0 i (n - j) j hn (by omega) (by omega) (by omega) (by omega) (by omega) (fun row' => ?_)
          refine br_f c1 (br_f c2 (br_f c3 (br_t c4 ?_)))
          exact sw_ycommon 0 i (n - j) j hn (by omega) (by omega) (by omega) (fun tab' => ⟨rfl, sw_rel hm hn⟩)
        · exact br_f c1 (br_f c2 (br_f c3 (br_f c4 (br_f c1 (br_f c2 (br_f c3 (br_f c4 ⟨rfl, sw_rel hm hn⟩)))))))
theorem i_vc_changesB {k : Nat} {u : SX} {v : SY} (I : i_Rel k u v) (hk : k + 3 ≤ 1536) (v1 : Int32) (v2 : Int32) : wpX_changesB (fun r u' => wpY_changesB (fun r' v' => r' = r ∧ i_Rel (k + 3) u' v') v v1 v2) u v1 v2 := by
  obtain ⟨m, n, a, b, row, tab, ofs, hm, hn, rfl, rfl⟩ := I
  unfold wpX_changesB
  dsimp only
  unfold wpY_changesB
  dsimp only
  by_cases hS : sw_St v1 v2 n
  · obtain ⟨i, j, hij, hj, rfl, rfl⟩ := hS
    refine sw_xst1 (by omega) hij hj (br_f (by decide) ?_)
    refine sw_xchanges 0 m i (j - i) hn (by omega) (by omega) (by omega) (by omega) (fun row' => ?_)
    refine sw_yst1 (by omega) hij hj (br_f (by decide) ?_)
    rw [pk_sub hij]
    exact sw_ychanges 0 m i (j - i) (by omega) (by omega) (fun tab' => ⟨rfl, sw_rel hm hn⟩)
  · exact sw_xst0 (by omega) hS (br_t rfl (sw_yst0 (by omega) hS (br_t rfl ⟨rfl, sw_rel hm hn⟩)))
theorem i_vc_changesA {k : Nat} {u : SX} {v : SY} (I : i_Rel k u v) (hk : k + 3 ≤ 1536) (v1 : Int32) (v2 : Int32) : wpX_changesA (fun r u' => wpY_changesA (fun r' v' => r' = r ∧ i_Rel (k + 3) u' v') v v1 v2) u v1 v2 := by
  obtain ⟨m, n, a, b, row, tab, ofs, hm, hn, rfl, rfl⟩ := I
  unfold wpX_changesA
  dsimp only
  unfold wpY_changesA
  dsimp only
  by_cases hS : sw_St v1 v2 m
  · obtain ⟨i, j, hij, hj, rfl, rfl⟩ := hS
    refine sw_xst1 (by omega) hij hj (br_f (by decide) ?_)
    refine sw_xchanges i (j - i) 0 n hn (by omega) (by omega) (by omega) (by omega) (fun row' => ?_)
    refine sw_yst1 (by omega) hij hj (br_f (by decide) ?_)
    rw [pk_sub hij]
    exact sw_ychanges i (j - i) 0 n (by omega) (by omega) (fun tab' => ⟨rfl, sw_rel hm hn⟩)
  · exact sw_xst0 (by omega) hS (br_t rfl (sw_yst0 (by omega) hS (br_t rfl ⟨rfl, sw_rel hm hn⟩)))
theorem i_vc_nearest {k : Nat} {u : SX} {v : SY} (I : i_Rel k u v) (hk : k + 3 ≤ 1536) : wpX_nearest (fun r u' => wpY_nearest (fun r' v' => r' = r ∧ i_Rel (k + 3) u' v') v) u := by
  obtain ⟨m, n, a, b, row, tab, ofs, hm, hn, rfl, rfl⟩ := I
  obtain ⟨p, q, hF⟩ := sw_first (sw_H a b m) n
  exact sw_xnearest hm hn hF (fun row' => sw_ynearest hm hn hF (fun tab' => ⟨rfl, sw_rel hm hn⟩))
theorem i_vc_nearestAt {k : Nat} {u : SX} {v : SY} (I : i_Rel k u v) (hk : k + 3 ≤ 1536) : wpX_nearestAt (fun r u' => wpY_nearestAt (fun r' v' => r' = r ∧ i_Rel (k + 3) u' v') v) u := by
  obtain ⟨m, n, a, b, row, tab, ofs, hm, hn, rfl, rfl⟩ := I
  obtain ⟨p, q, hF⟩ := sw_first (sw_H a b m) n
  exact sw_xnearestAt hm hn hF (fun row' => sw_ynearestAt hm hn hF (fun tab' => ⟨rfl, sw_rel hm hn⟩))
theorem i_vc_shortest {k : Nat} {u : SX} {v : SY} (I : i_Rel k u v) (hk : k + 3 ≤ 1536) (v1 : Int32) : wpX_shortest (fun r u' => wpY_shortest (fun r' v' => r' = r ∧ i_Rel (k + 3) u' v') v v1) u v1 := by
  obtain ⟨m, n, a, b, row, tab, ofs, hm, hn, rfl, rfl⟩ := I
  exact sw_xshortest hm hn (fun row' => sw_yshortest hm hn (fun tab' => ⟨rfl, sw_rel hm hn⟩))
theorem i_vc_widest {k : Nat} {u : SX} {v : SY} (I : i_Rel k u v) (hk : k + 3 ≤ 1536) (v1 : Int32) : wpX_widest (fun r u' => wpY_widest (fun r' v' => r' = r ∧ i_Rel (k + 3) u' v') v v1) u v1 := by
  obtain ⟨m, n, a, b, row, tab, ofs, hm, hn, rfl, rfl⟩ := I
  unfold wpX_widest
  dsimp only
  by_cases c1 : v1 < 0
  · refine br_t c1 ?_
    unfold wpY_widest
    dsimp only
    exact br_t c1 ⟨rfl, sw_rel hm hn⟩
  · by_cases c2 : v1 ≤ nI n
    · obtain ⟨w, hw, rfl⟩ := nI_of c1
      have d2 := c2
      rw [nI_leI hw (by omega)] at d2
      exact br_f c1 (br_t c2 (sw_xgreatest w hm hn d2 (fun row' => sw_ywidest w hm hn d2 (fun tab' => ⟨rfl, sw_rel hm hn⟩))))
    · refine br_f c1 (br_f c2 ?_)
      unfold wpY_widest
      dsimp only
      exact br_f c1 (br_f c2 ⟨rfl, sw_rel hm hn⟩)
theorem i_vc_rotated {k : Nat} {u : SX} {v : SY} (I : i_Rel k u v) (hk : k + 3 ≤ 1536) : wpX_rotated (fun r u' => wpY_rotated (fun r' v' => r' = r ∧ i_Rel (k + 3) u' v') v) u := by
  obtain ⟨m, n, a, b, row, tab, ofs, hm, hn, rfl, rfl⟩ := I
  exact sw_xrotated hm hn (fun row' => sw_yrotated hm hn (fun tab' => ⟨rfl, sw_rel hm hn⟩))
theorem i_vc_tight {k : Nat} {u : SX} {v : SY} (I : i_Rel k u v) (hk : k + 3 ≤ 1536) : wpX_tight (fun r u' => wpY_tight (fun r' v' => r' = r ∧ i_Rel (k + 3) u' v') v) u := by
  obtain ⟨m, n, a, b, row, tab, ofs, hm, hn, rfl, rfl⟩ := I
  exact sw_xtight hm hn (fun row' => sw_ytight hm hn (fun tab' ofs' => ⟨rfl, sw_rel hm hn⟩))
end
