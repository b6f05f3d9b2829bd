/-! the reference's scans: nearest, nearestAt, widest, shortest, rotated, isTight, tight -/
theorem sw_yn17 {post : Int32 → SY → Prop} {J : Int32 → Int32 → Int32 → Int32 → (Nat → Int32) → (Nat → Int32) → (Nat → Int32) → (Nat → Int32) → Prop} {a b ofs : Nat → Int32} {m n p q i : Nat} (hm : m ≤ 10) (hn : n ≤ 14) (hi : i ≤ n) (hF : sw_First (sw_H a b m) n p q)
    (K : ∀ tab l, l ≤ m → sw_NI (sw_H a b m) p q (i + 1) (i + 1) l → J (nI l) (nI (i + 1)) (nI m) (nI n) a b tab ofs) :
    ∀ (d f j l : Nat) (tab : Nat → Int32), j + d = n + 1 → i ≤ j → d < f → l ≤ m → sw_NI (sw_H a b m) p q i j l → wY_nearest_17 post J (nI i) f (nI l) (nI j) (nI m) (nI n) a b tab ofs := by
  intro d
  induction d with
  | zero =>
    intro f j l tab hj hij hf hl hN
    obtain ⟨f, rfl⟩ : ∃ g, f = g + 1 := ⟨f - 1, by omega⟩
    obtain rfl : j = n + 1 := by omega
    exact pk_lt n (n + 1) (fun _ => nm_r (nI_1 i) (K tab l hl (sw_NIr hF hN))) (fun h => absurd h (by omega))
  | succ d ih =>
    intro f j l tab hj hij hf hl hN
    obtain ⟨f, rfl⟩ : ∃ g, f = g + 1 := ⟨f - 1, by omega⟩
    have hb := sw_Hb a b m i j
    refine pk_lt n j (fun h => absurd h (by omega)) (fun _ => ?_)
    rw [pk_sub hij]
    refine sw_ychanges 0 m i (j - i) (by omega) (by omega) (fun tab' => ?_)
    refine sw_yleast l (sw_H a b m i j) (by omega) (by omega) (nm_r (nI_1 j) ?_)
    exact ih f (j + 1) _ tab' (by omega) (by omega) (by omega) (by omega) (sw_NIs hF hij (by omega) hN)
theorem sw_yn7 {post : Int32 → SY → Prop} {a b ofs : Nat → Int32} {m n p q : Nat} (hm : m ≤ 10) (hn : n ≤ 14) (hF : sw_First (sw_H a b m) n p q)
    (K : ∀ tab, post (nI (sw_H a b m p q)) (nI m, nI n, a, b, tab, ofs)) :
    ∀ (d f i l : Nat) (tab : Nat → Int32), i + d = n + 1 → d < f → l ≤ m → sw_NI (sw_H a b m) p q i i l → wY_nearest_7 post f (nI l) (nI i) (nI m) (nI n) a b tab ofs := by
  intro d
  induction d with
  | zero =>
    intro f i l tab hi hf hl hN
    obtain ⟨f, rfl⟩ : ∃ g, f = g + 1 := ⟨f - 1, by omega⟩
    obtain rfl : i = n + 1 := by omega
    obtain rfl := sw_NIe hF hN
    exact pk_lt n (n + 1) (fun _ => K tab) (fun h => absurd h (by omega))
  | succ d ih =>
    intro f i l tab hi hf hl hN
    obtain ⟨f, rfl⟩ : ∃ g, f = g + 1 := ⟨f - 1, by omega⟩
    exact pk_lt n i (fun h => absurd h (by omega)) (fun _ => ⟨n + 2, sw_yn17 hm hn (by omega) hF (fun tab' l' hl' hN' => ih f (i + 1) l' tab' (by omega) (by omega) hl' hN') (n + 1 - i) (n + 2) i l tab (by omega) (by omega) (by omega) hl hN⟩)
theorem sw_ynearest {post : Int32 → SY → Prop} {a b tab ofs : Nat → Int32} {m n p q : Nat} (hm : m ≤ 10) (hn : n ≤ 14) (hF : sw_First (sw_H a b m) n p q)
    (K : ∀ tab', post (nI (sw_H a b m p q)) (nI m, nI n, a, b, tab', ofs)) : wpY_nearest post (nI m, nI n, a, b, tab, ofs) := by
  unfold wpY_nearest
  dsimp only
  have h := hF.2.2.1 0 0 (Nat.le_refl 0) (Nat.zero_le n)
  rw [sw_H0] at h
  exact ⟨n + 2, sw_yn7 hm hn hF K (n + 1) (n + 2) 0 m tab (by omega) (by omega) (Nat.le_refl m) ⟨h, fun c => by omega⟩⟩
theorem sw_ya17 {post : Int32 → SY → Prop} {J : Int32 → Int32 → Int32 → (Nat → Int32) → (Nat → Int32) → (Nat → Int32) → (Nat → Int32) → Prop} {a b ofs : Nat → Int32} {m n p q i : Nat} (hm : m ≤ 10) (hn : n ≤ 14) (hi : i ≤ n) (hF : sw_First (sw_H a b m) n p q)
    (hP : ∀ tab, post (nI (16 * p + q)) (nI m, nI n, a, b, tab, ofs))
    (K : ∀ tab, i + 1 ≤ p → J (nI (i + 1)) (nI m) (nI n) a b tab ofs) :
    ∀ (d f j : Nat) (tab : Nat → Int32), j + d = n + 1 → i ≤ j → d < f → ¬ (p < i ∨ (p = i ∧ q < j)) → wY_nearestAt_17 post J (nI (sw_H a b m p q)) (nI i) f (nI j) (nI m) (nI n) a b tab ofs := by
  intro d
  have hF1 := hF.1
  have hF2 := hF.2.1
  have hbp := sw_Hb a b m p q
  induction d with
  | zero =>
    intro f j tab hj hij hf hN
    obtain ⟨f, rfl⟩ : ∃ g, f = g + 1 := ⟨f - 1, by omega⟩
    obtain rfl : j = n + 1 := by omega
    exact pk_lt n (n + 1) (fun _ => nm_r (nI_1 i) (K tab (by omega))) (fun h => absurd h (by omega))
  | succ d ih =>
    intro f j tab hj hij hf hN
    obtain ⟨f, rfl⟩ : ∃ g, f = g + 1 := ⟨f - 1, by omega⟩
    have hb := sw_Hb a b m i j
    refine pk_lt n j (fun h => absurd h (by omega)) (fun _ => ?_)
    rw [pk_sub hij]
    refine sw_ychanges 0 m i (j - i) (by omega) (by omega) (fun tab' => ?_)
    refine pk_eq (sw_H a b m i j) (sw_H a b m p q) (fun c => ?_) (fun c => nm_r (nI_1 j) ?_)
    · rw [sw_16]
      by_cases e : p = i ∧ q = j
      · obtain ⟨rfl, rfl⟩ := e
        exact hP tab'
      · have := hF.2.2.2 i j hij (by omega) (by omega)
        omega
    · refine ih f (j + 1) tab' (by omega) (by omega) (by omega) ?_
      by_cases e : p = i ∧ q = j
      · obtain ⟨rfl, rfl⟩ := e
        exact absurd rfl c
      · omega
theorem sw_ya7 {post : Int32 → SY → Prop} {a b ofs : Nat → Int32} {m n p q : Nat} (hm : m ≤ 10) (hn : n ≤ 14) (hF : sw_First (sw_H a b m) n p q)
    (hP : ∀ tab, post (nI (16 * p + q)) (nI m, nI n, a, b, tab, ofs)) :
    ∀ (d f i : Nat) (tab : Nat → Int32), i + d = n + 1 → d < f → i ≤ p → wY_nearestAt_7 post (nI (sw_H a b m p q)) f (nI i) (nI m) (nI n) a b tab ofs := by
  intro d
  have hF1 := hF.1
  have hF2 := hF.2.1
  induction d with
  | zero => intro f i tab hi hf hN; omega
  | succ d ih =>
    intro f i tab hi hf hN
    obtain ⟨f, rfl⟩ : ∃ g, f = g + 1 := ⟨f - 1, by omega⟩
    exact pk_lt n i (fun h => absurd h (by omega)) (fun _ => ⟨n + 2, sw_ya17 hm hn (by omega) hF hP (fun tab' h => ih f (i + 1) tab' (by omega) (by omega) h) (n + 1 - i) (n + 2) i tab (by omega) (by omega) (by omega) (by omega)⟩)
theorem sw_ynearestAt {post : Int32 → SY → Prop} {a b tab ofs : Nat → Int32} {m n p q : Nat} (hm : m ≤ 10) (hn : n ≤ 14) (hF : sw_First (sw_H a b m) n p q)
    (K : ∀ tab', post (nI (16 * p + q)) (nI m, nI n, a, b, tab', ofs)) : wpY_nearestAt post (nI m, nI n, a, b, tab, ofs) := by
  unfold wpY_nearestAt
  dsimp only
  exact sw_ynearest hm hn hF (fun tab' => ⟨n + 2, sw_ya7 hm hn hF K (n + 1) (n + 2) 0 tab' (by omega) (by omega) (Nat.zero_le p)⟩)
theorem sw_yw19 {post : Int32 → SY → Prop} {a b ofs : Nat → Int32} {m n w : Nat} (hm : m ≤ 10) (hn : n ≤ 14) (hw : w ≤ n)
    (K : ∀ tab, post (nI (sw_W a b n m w)) (nI m, nI n, a, b, tab, ofs)) :
    ∀ (d f i : Nat) (tab : Nat → Int32), i + d = n + 1 - w → d < f → wY_widest_19 post (nI w) f (nI (sw_G (fun i => sw_C a b n 0 m i w) i)) (nI i) (nI m) (nI n) a b tab ofs := by
  intro d
  induction d with
  | zero =>
    intro f i tab hi hf
    obtain ⟨f, rfl⟩ : ∃ g, f = g + 1 := ⟨f - 1, by omega⟩
    obtain rfl : i = n + 1 - w := by omega
    exact pk_lt n (n + 1 - w + w) (fun _ => K tab) (fun h => absurd h (by omega)) rfl (nI_add _ _)
  | succ d ih =>
    intro f i tab hi hf
    obtain ⟨f, rfl⟩ : ∃ g, f = g + 1 := ⟨f - 1, by omega⟩
    have h1 := sw_Gb (fun i => sw_C a b n 0 m i w) m (fun i => sw_Cb a b n 0 m i w) i
    have h2 := sw_Cb a b n 0 m i w
    refine pk_lt n (i + w) (fun h => absurd h (by omega)) (fun _ => ?_) rfl (nI_add _ _)
    refine sw_ycommon 0 m i w hn hw (by omega) (by omega) (fun tab' => ?_)
    have h := ih f (i + 1) tab' (by omega) (by omega)
    rw [sw_G] at h
    refine pk_le (sw_C a b n 0 m i w) (sw_G (fun i => sw_C a b n 0 m i w) i) (fun c => nm_r (nI_1 i) ?_) (fun c => nm_r (nI_1 i) ?_)
    · rw [Nat.max_eq_left c] at h
      exact h
    · rw [Nat.max_eq_right (Nat.le_of_lt c)] at h
      exact h
theorem sw_ywidest {post : Int32 → SY → Prop} {a b tab ofs : Nat → Int32} {m n : Nat} (w : Nat) (hm : m ≤ 10) (hn : n ≤ 14) (hw : w ≤ n)
    (K : ∀ tab', post (nI (sw_W a b n m w)) (nI m, nI n, a, b, tab', ofs)) : wpY_widest post (nI m, nI n, a, b, tab, ofs) (nI w) := by
  unfold wpY_widest
  dsimp only
  refine br_f (nI_pos (by omega)) (br_t (nI_le hw (by omega)) ⟨n + 2, ?_⟩)
  exact sw_yw19 hm hn hw K (n + 1 - w) (n + 2) 0 tab (by omega) (by omega)
theorem sw_ys9 {post : Int32 → SY → Prop} {a b ofs : Nat → Int32} {m n : Nat} {k : Int32} (hm : m ≤ 10) (hn : n ≤ 14) :
    ∀ (d f w : Nat) (tab : Nat → Int32), w + d = n + 1 → d < f → (∀ tab', post (sw_sh (sw_W a b n m) k d w) (nI m, nI n, a, b, tab', ofs)) → wY_shortest_9 post k f (nI w) (nI m) (nI n) a b tab ofs := by
  intro d
  induction d with
  | zero =>
    intro f w tab hw hf K
    obtain ⟨f, rfl⟩ : ∃ g, f = g + 1 := ⟨f - 1, by omega⟩
    exact pk_lt n w (fun _ => K tab) (fun h => absurd h (by omega))
  | succ d ih =>
    intro f w tab hw hf K
    obtain ⟨f, rfl⟩ : ∃ g, f = g + 1 := ⟨f - 1, by omega⟩
    refine pk_lt n w (fun h => absurd h (by omega)) (fun _ => ?_)
    refine sw_ywidest w hm hn (by omega) (fun tab' => ?_)
    by_cases c : nI (sw_W a b n m w) < k
    · refine br_t c (nm_r (nI_1 w) (ih f (w + 1) tab' (by omega) (by omega) (fun tab2 => ?_)))
      have h := K tab2
      rw [sw_sh_t c] at h
      exact h
    · refine br_f c ?_
      have h := K tab'
      rw [sw_sh_f c] at h
      exact h
theorem sw_W0 (a b : Nat → Int32) (n m : Nat) : sw_W a b n m 0 = 0 := sw_G0 _ (fun i => sw_C0 a b n 0 m i) _
theorem sw_pos1 (k : Int32) : (1 : Int32) ≤ k ↔ (0 : Int32) < k := by
  rw [Int32.le_iff_toInt_le, Int32.lt_iff_toInt_lt, show (1 : Int32).toInt = 1 from by decide, show (0 : Int32).toInt = 0 from by decide]
  omega
theorem sw_yshortest {post : Int32 → SY → Prop} {a b tab ofs : Nat → Int32} {m n : Nat} {k : Int32} (hm : m ≤ 10) (hn : n ≤ 14)
    (K : ∀ tab', post (sw_sh (sw_W a b n m) k (n + 1) 0) (nI m, nI n, a, b, tab', ofs)) : wpY_shortest post (nI m, nI n, a, b, tab, ofs) k := by
  unfold wpY_shortest
  dsimp only
  by_cases c : (1 : Int32) ≤ k
  · have c2 : nI (sw_W a b n m 0) < k := by
      rw [sw_W0]
      exact (sw_pos1 k).mp c
    refine br_t c ⟨n + 2, sw_ys9 hm hn n (n + 2) 1 tab (by omega) (by omega) (fun tab' => ?_)⟩
    have h := K tab'
    rw [sw_sh_t c2] at h
    exact h
  · have c2 : ¬ nI (sw_W a b n m 0) < k := by
      rw [sw_W0]
      exact fun z => c ((sw_pos1 k).mpr z)
    refine br_f c ?_
    have h := K tab
    rw [sw_sh_f c2] at h
    exact h
theorem sw_yr4 {post : Int32 → SY → Prop} {a b ofs : Nat → Int32} {m n : Nat} (hm : m ≤ 10) (hn : n ≤ 14)
    (K : ∀ tab, post (nI (sw_G (fun i => sw_C a b n 0 m i n) n)) (nI m, nI n, a, b, tab, ofs)) :
    ∀ (d f i : Nat) (tab : Nat → Int32), i + d = n → d < f → wY_rotated_4 post f (nI (sw_G (fun i => sw_C a b n 0 m i n) i)) (nI i) (nI m) (nI n) a b tab ofs := by
  intro d
  induction d with
  | zero =>
    intro f i tab hi hf
    obtain ⟨f, rfl⟩ : ∃ g, f = g + 1 := ⟨f - 1, by omega⟩
    obtain rfl : i = n := by omega
    exact pk_le i i (fun _ => K tab) (fun h => absurd h (by omega))
  | succ d ih =>
    intro f i tab hi hf
    obtain ⟨f, rfl⟩ : ∃ g, f = g + 1 := ⟨f - 1, by omega⟩
    have h1 := sw_Gb (fun i => sw_C a b n 0 m i n) m (fun i => sw_Cb a b n 0 m i n) i
    have h2 := sw_Cb a b n 0 m i n
    refine pk_le n i (fun h => absurd h (by omega)) (fun _ => ?_)
    refine sw_ycommon 0 m i n hn (Nat.le_refl n) (by omega) (by omega) (fun tab' => ?_)
    have h := ih f (i + 1) tab' (by omega) (by omega)
    rw [sw_G] at h
    refine pk_le (sw_C a b n 0 m i n) (sw_G (fun i => sw_C a b n 0 m i n) i) (fun c => nm_r (nI_1 i) ?_) (fun c => nm_r (nI_1 i) ?_)
    · rw [Nat.max_eq_left c] at h
      exact h
    · rw [Nat.max_eq_right (Nat.le_of_lt c)] at h
      exact h
theorem sw_yrotated {post : Int32 → SY → Prop} {a b tab ofs : Nat → Int32} {m n : Nat} (hm : m ≤ 10) (hn : n ≤ 14)
    (K : ∀ tab', post (nI (sw_G (fun i => sw_C a b n 0 m i n) n)) (nI m, nI n, a, b, tab', ofs)) : wpY_rotated post (nI m, nI n, a, b, tab, ofs) := by
  unfold wpY_rotated
  dsimp only
  exact ⟨n + 1, sw_yr4 hm hn K n (n + 1) 0 tab (by omega) (by omega)⟩
