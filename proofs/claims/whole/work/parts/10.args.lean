/-! arguments in and out of their ranges; the shift of B -/
def sw_Let (c : Int32) : Prop := ¬ c < 0 ∧ ¬ (4 : Int32) ≤ c
theorem sw_34 (c : Int32) : (3 : Int32) < c ↔ (4 : Int32) ≤ c := by
  rw [Int32.le_iff_toInt_le, Int32.lt_iff_toInt_lt, show (3 : Int32).toInt = 3 from by decide, show (4 : Int32).toInt = 4 from by decide]
  omega
theorem sw_xlt {post : Int32 → Prop} {c : Int32} (h : sw_Let c) (k : post 1) : wpX_isLetter post c := br_f h.1 (br_f h.2 k)
theorem sw_xln {post : Int32 → Prop} {c : Int32} (h : ¬ sw_Let c) (k : post 0) : wpX_isLetter post c := by
  by_cases c1 : c < 0
  · exact br_t c1 k
  · by_cases c2 : (4 : Int32) ≤ c
    · exact br_f c1 (br_t c2 k)
    · exact absurd ⟨c1, c2⟩ h
theorem sw_ylt {post : Int32 → Prop} {u : SY} {c : Int32} (h : sw_Let c) (k : post 1) : wpY_isLetter post u c := by
  obtain ⟨f_m, f_n, a_a, a_b, a_table, a_of⟩ := u
  exact br_f h.1 (br_f (fun z => h.2 ((sw_34 c).mp z)) k)
theorem sw_yln {post : Int32 → Prop} {u : SY} {c : Int32} (h : ¬ sw_Let c) (k : post 0) : wpY_isLetter post u c := by
  obtain ⟨f_m, f_n, a_a, a_b, a_table, a_of⟩ := u
  by_cases c1 : c < 0
  · exact br_t c1 k
  · by_cases c2 : (4 : Int32) ≤ c
    · exact br_f c1 (br_t ((sw_34 c).mpr c2) k)
    · exact absurd ⟨c1, c2⟩ h
def sw_St (v1 v2 : Int32) (n : Nat) : Prop := ∃ i j, i ≤ j ∧ j ≤ n ∧ v1 = nI i ∧ v2 = nI j
theorem sw_st (v1 v2 : Int32) (n : Nat) (hn : n < 2 ^ 31) (c1 : ¬ v1 < 0) (c2 : ¬ v2 < v1) (c3 : ¬ nI n < v2) : sw_St v1 v2 n := by
  have c4 : ¬ v2 < 0 := by
    rw [Int32.lt_iff_toInt_lt] at c1 c2 ⊢
    have h0 : (0 : Int32).toInt = 0 := by decide
    omega
  obtain ⟨i, hi, rfl⟩ := nI_of c1
  obtain ⟨j, hj, rfl⟩ := nI_of c4
  rw [nI_ltI hj hi] at c2
  rw [nI_ltI hn hj] at c3
  exact ⟨i, j, by omega, by omega, rfl, rfl⟩
theorem sw_xst1 {post : Int32 → Prop} {i j n : Nat} (hn : n < 2 ^ 31) (hij : i ≤ j) (hj : j ≤ n) (k : post 1) : wpX_isStretch post (nI i) (nI j) (nI n) :=
  br_f (nI_pos (by omega)) (br_f (nI_nlt hij (by omega)) (br_f (nI_nlt hj (by omega)) k))
theorem sw_xst0 {post : Int32 → Prop} {v1 v2 : Int32} {n : Nat} (hn : n < 2 ^ 31) (h : ¬ sw_St v1 v2 n) (k : post 0) : wpX_isStretch post v1 v2 (nI n) := by
  by_cases c1 : v1 < 0
  · exact br_t c1 k
  · by_cases c2 : v2 < v1
    · exact br_f c1 (br_t c2 k)
    · by_cases c3 : nI n < v2
      · exact br_f c1 (br_f c2 (br_t c3 k))
      · exact absurd (sw_st v1 v2 n hn c1 c2 c3) h
theorem sw_yst1 {post : Int32 → Prop} {u : SY} {i j n : Nat} (hn : n < 2 ^ 31) (hij : i ≤ j) (hj : j ≤ n) (k : post 1) : wpY_isStretch post u (nI i) (nI j) (nI n) := by
  obtain ⟨f_m, f_n, a_a, a_b, a_table, a_of⟩ := u
  exact br_f (nI_pos (by omega)) (br_f (nI_nlt hij (by omega)) (br_f (nI_nlt hj (by omega)) k))
theorem sw_yst0 {post : Int32 → Prop} {u : SY} {v1 v2 : Int32} {n : Nat} (hn : n < 2 ^ 31) (h : ¬ sw_St v1 v2 n) (k : post 0) : wpY_isStretch post u v1 v2 (nI n) := by
  obtain ⟨f_m, f_n, a_a, a_b, a_table, a_of⟩ := u
  by_cases c1 : v1 < 0
  · exact br_t c1 k
  · by_cases c2 : v2 < v1
    · exact br_f c1 (br_t c2 k)
    · by_cases c3 : nI n < v2
      · exact br_f c1 (br_f c2 (br_t c3 k))
      · exact absurd (sw_st v1 v2 n hn c1 c2 c3) h
/-- B after y of its letters have moved one place down -/
def sw_mv (b : Nat → Int32) : Nat → Nat → Int32
  | 0 => b
  | y + 1 => upd (sw_mv b y) y (sw_mv b y (y + 1))
theorem sw_xsh {post : Int32 → SX → Prop} {x1 m : Int32} {a b row : Nat → Int32} {n : Nat} (hn : n + 1 ≤ 14) (K : post x1 (m, nI n, a, sw_mv b n, row)) :
    ∀ (d f y : Nat), y + d = n → d < f → wX_shiftB_19 post x1 m (nI (n + 1)) f (nI (y + 1)) a (sw_mv b y) row := by
  intro d
  induction d with
  | zero =>
    intro f y hy hf
    obtain ⟨f, rfl⟩ : ∃ g, f = g + 1 := ⟨f - 1, by omega⟩
    obtain rfl : y = n := by omega
    exact pk_le (y + 1) (y + 1) (fun _ => nm_r (nI_pred y) K) (fun h => absurd h (by omega))
  | succ d ih =>
    intro f y hy hf
    obtain ⟨f, rfl⟩ : ∃ g, f = g + 1 := ⟨f - 1, by omega⟩
    refine pk_le (n + 1) (y + 1) (fun h => absurd h (by omega)) (fun _ => ?_)
    rw [nI_pred, nI_clamp (show y < 2 ^ 31 by omega), nI_clamp (show y + 1 < 2 ^ 31 by omega)]
    exact ⟨vp_in_nI (by omega) (by omega), vp_in_nI (by omega) (by omega), nm_e (nm_r (nI_1 (y + 1)) (ih f (y + 1) (by omega) (by omega)))⟩
theorem sw_ysh {post : Int32 → SY → Prop} {x1 m : Int32} {a b tab ofs : Nat → Int32} {n : Nat} (hn : n + 1 ≤ 14) (K : post x1 (m, nI n, a, sw_mv b n, tab, ofs)) :
    ∀ (d f y : Nat), y + d = n → d < f → wY_shiftB_19 post x1 m (nI (n + 1)) f (nI (y + 1)) a (sw_mv b y) tab ofs := by
  intro d
  induction d with
  | zero =>
    intro f y hy hf
    obtain ⟨f, rfl⟩ : ∃ g, f = g + 1 := ⟨f - 1, by omega⟩
    obtain rfl : y = n := by omega
    exact pk_le (y + 1) (y + 1) (fun _ => nm_r (nI_pred y) K) (fun h => absurd h (by omega))
  | succ d ih =>
    intro f y hy hf
    obtain ⟨f, rfl⟩ : ∃ g, f = g + 1 := ⟨f - 1, by omega⟩
    refine pk_le (n + 1) (y + 1) (fun h => absurd h (by omega)) (fun _ => ?_)
    rw [nI_pred, nI_clamp (show y < 2 ^ 31 by omega), nI_clamp (show y + 1 < 2 ^ 31 by omega)]
    exact ⟨vp_in_nI (by omega) (by omega), vp_in_nI (by omega) (by omega), nm_e (nm_r (nI_1 (y + 1)) (ih f (y + 1) (by omega) (by omega)))⟩
/-- both sides hold the same two words; the row, the table and the list of answers are free -/
def i_Rel (k : Nat) (u : SX) (v : SY) : Prop := ∃ (m n : Nat) (a b row tab ofs : Nat → Int32), m ≤ 10 ∧ n ≤ 14 ∧ u = (nI m, nI n, a, b, row) ∧ v = (nI m, nI n, a, b, tab, ofs)
theorem sw_rel {k m n : Nat} {a b row tab ofs : Nat → Int32} (hm : m ≤ 10) (hn : n ≤ 14) : i_Rel k (nI m, nI n, a, b, row) (nI m, nI n, a, b, tab, ofs) := ⟨m, n, a, b, row, tab, ofs, hm, hn, rfl, rfl⟩
