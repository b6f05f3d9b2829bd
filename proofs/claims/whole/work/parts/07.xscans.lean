/-! the class's scans: nearest, nearestAt, greatestOfWidth, shortest, rotated, isTight, tight -/
/-- CHANGES of A and the stretch (i, j) of B -/
def sw_H (a b : Nat → Int32) (m i j : Nat) : Nat := sw_E a b 0 m i (j - i)
theorem sw_Hb (a b : Nat → Int32) (m i j : Nat) : sw_H a b m i j ≤ m + (j - i) := sw_Eb a b 0 m i (j - i)
theorem sw_H0 (a b : Nat → Int32) (m i : Nat) : sw_H a b m i i = m := by
  unfold sw_H
  rw [Nat.sub_self, sw_E0]
/-- the least so far at (i, j), where (p, q) is the first with the least -/
def sw_NI (f : Nat → Nat → Nat) (p q i j l : Nat) : Prop := f p q ≤ l ∧ ((p < i ∨ (p = i ∧ q < j)) → l = f p q)
theorem sw_NIs {f : Nat → Nat → Nat} {n p q i j l : Nat} (hF : sw_First f n p q) (hij : i ≤ j) (hj : j ≤ n) (H : sw_NI f p q i j l) : sw_NI f p q i (j + 1) (min l (f i j)) := by
  obtain ⟨h1, h2, h3, h4⟩ := hF
  have h5 := h3 i j hij hj
  have h6 := H.1
  refine ⟨by omega, fun c => ?_⟩
  by_cases e : p = i ∧ q = j
  · obtain ⟨rfl, rfl⟩ := e
    omega
  · have h7 := H.2 (by omega)
    omega
theorem sw_NIr {f : Nat → Nat → Nat} {n p q i l : Nat} (hF : sw_First f n p q) (H : sw_NI f p q i (n + 1) l) : sw_NI f p q (i + 1) (i + 1) l := by
  obtain ⟨h1, h2, h3, h4⟩ := hF
  exact ⟨H.1, fun c => H.2 (by omega)⟩
theorem sw_NIe {f : Nat → Nat → Nat} {n p q l : Nat} (hF : sw_First f n p q) (H : sw_NI f p q (n + 1) (n + 1) l) : l = f p q := H.2 (Or.inl (by have := hF.1; have := hF.2.1; omega))
theorem sw_xn17 {post : Int32 → SX → Prop} {J : Int32 → Int32 → Int32 → Int32 → (Nat → Int32) → (Nat → Int32) → (Nat → Int32) → Prop} {a b : Nat → Int32} {m n p q i : Nat} (hm : m ≤ 10) (hn : n ≤ 14) (hi : i ≤ n) (hF : sw_First (sw_H a b m) n p q)
    (K : ∀ row l, l ≤ m → sw_NI (sw_H a b m) p q (i + 1) (i + 1) l → J (nI l) (nI (i + 1)) (nI m) (nI n) a b row) :
    ∀ (d f j l : Nat) (row : Nat → Int32), j + d = n + 1 → i ≤ j → d < f → l ≤ m → sw_NI (sw_H a b m) p q i j l → wX_nearest_17 post J (nI i) f (nI l) (nI j) (nI m) (nI n) a b row := by
  intro d
  induction d with
  | zero =>
    intro f j l row hj hij hf hl hN
    obtain ⟨f, rfl⟩ : ∃ g, f = g + 1 := ⟨f - 1, by omega⟩
    obtain rfl : j = n + 1 := by omega
    exact pk_lt n (n + 1) (fun _ => nm_r (nI_1 i) (K row l hl (sw_NIr hF hN))) (fun h => absurd h (by omega))
  | succ d ih =>
    intro f j l row hj hij hf hl hN
    obtain ⟨f, rfl⟩ : ∃ g, f = g + 1 := ⟨f - 1, by omega⟩
    have hb := sw_Hb a b m i j
    refine pk_lt n j (fun h => absurd h (by omega)) (fun _ => ?_)
    refine sw_xchanges 0 m i (j - i) hn (by omega) (by omega) (by omega) (by omega) (fun row' => ?_)
    refine sw_xsmaller l (sw_H a b m i j) (by omega) (by omega) (nm_r (nI_1 j) ?_)
    exact ih f (j + 1) _ row' (by omega) (by omega) (by omega) (by omega) (sw_NIs hF hij (by omega) hN)
theorem sw_xn7 {post : Int32 → SX → Prop} {a b : Nat → Int32} {m n p q : Nat} (hm : m ≤ 10) (hn : n ≤ 14) (hF : sw_First (sw_H a b m) n p q)
    (K : ∀ row, post (nI (sw_H a b m p q)) (nI m, nI n, a, b, row)) :
    ∀ (d f i l : Nat) (row : Nat → Int32), i + d = n + 1 → d < f → l ≤ m → sw_NI (sw_H a b m) p q i i l → wX_nearest_7 post f (nI l) (nI i) (nI m) (nI n) a b row := by
  intro d
  induction d with
  | zero =>
    intro f i l row hi hf hl hN
    obtain ⟨f, rfl⟩ : ∃ g, f = g + 1 := ⟨f - 1, by omega⟩
    obtain rfl : i = n + 1 := by omega
    obtain rfl := sw_NIe hF hN
    exact pk_lt n (n + 1) (fun _ => K row) (fun h => absurd h (by omega))
  | succ d ih =>
    intro f i l row hi hf hl hN
    obtain ⟨f, rfl⟩ : ∃ g, f = g + 1 := ⟨f - 1, by omega⟩
    exact pk_lt n i (fun h => absurd h (by omega)) (fun _ => ⟨n + 2, sw_xn17 hm hn (by omega) hF (fun row' l' hl' hN' => ih f (i + 1) l' row' (by omega) (by omega) hl' hN') (n + 1 - i) (n + 2) i l row (by omega) (by omega) (by omega) hl hN⟩)
theorem sw_xnearest {post : Int32 → SX → Prop} {a b row : Nat → Int32} {m n p q : Nat} (hm : m ≤ 10) (hn : n ≤ 14) (hF : sw_First (sw_H a b m) n p q)
    (K : ∀ row', post (nI (sw_H a b m p q)) (nI m, nI n, a, b, row')) : wpX_nearest post (nI m, nI n, a, b, row) := by
  unfold wpX_nearest
  dsimp only
  have h := hF.2.2.1 0 0 (Nat.le_refl 0) (Nat.zero_le n)
  rw [sw_H0] at h
  exact ⟨n + 2, sw_xn7 hm hn hF K (n + 1) (n + 2) 0 m row (by omega) (by omega) (Nat.le_refl m) ⟨h, fun c => by omega⟩⟩
def sw_AI (f : Nat → Nat → Nat) (p q i j l t : Nat) : Prop := (l = f p q ∧ t = 16 * p + q) ∨ (f p q < l ∧ ¬ (p < i ∨ (p = i ∧ q < j)))
theorem sw_AIk {f : Nat → Nat → Nat} {n p q i j l t : Nat} (hF : sw_First f n p q) (H : sw_AI f p q i j l t) (c : l ≤ f i j) : sw_AI f p q i (j + 1) l t := by
  obtain ⟨h1, h2, h3, h4⟩ := hF
  rcases H with H | ⟨g1, g2⟩
  · exact Or.inl H
  · refine Or.inr ⟨g1, ?_⟩
    by_cases e : p = i ∧ q = j
    · obtain ⟨rfl, rfl⟩ := e
      omega
    · omega
theorem sw_AIu {f : Nat → Nat → Nat} {n p q i j l t : Nat} (hF : sw_First f n p q) (hij : i ≤ j) (hj : j ≤ n) (H : sw_AI f p q i j l t) (c : f i j < l) : sw_AI f p q i (j + 1) (f i j) (16 * i + j) := by
  obtain ⟨h1, h2, h3, h4⟩ := hF
  have h5 := h3 i j hij hj
  rcases H with ⟨g1, g2⟩ | ⟨g1, g2⟩
  · omega
  · by_cases e : p = i ∧ q = j
    · obtain ⟨rfl, rfl⟩ := e
      exact Or.inl ⟨rfl, rfl⟩
    · exact Or.inr ⟨h4 i j hij hj (by omega), by omega⟩
theorem sw_AIr {f : Nat → Nat → Nat} {n p q i l t : Nat} (hF : sw_First f n p q) (H : sw_AI f p q i (n + 1) l t) : sw_AI f p q (i + 1) (i + 1) l t := by
  obtain ⟨h1, h2, h3, h4⟩ := hF
  rcases H with H | ⟨g1, g2⟩
  · exact Or.inl H
  · exact Or.inr ⟨g1, by omega⟩
theorem sw_16 (i j : Nat) : (16 : Int32) * nI i + nI j = nI (16 * i + j) := by
  rw [show (16 : Int32) = nI 16 from rfl, pk_mul, nI_add]
theorem sw_xa20 {post : Int32 → SX → Prop} {J : Int32 → Int32 → Int32 → Int32 → Int32 → (Nat → Int32) → (Nat → Int32) → (Nat → Int32) → Prop} {a b : Nat → Int32} {m n p q i : Nat} (hm : m ≤ 10) (hn : n ≤ 14) (hi : i ≤ n) (hF : sw_First (sw_H a b m) n p q)
    (K : ∀ row l t, l ≤ m → sw_AI (sw_H a b m) p q (i + 1) (i + 1) l t → J (nI l) (nI t) (nI (i + 1)) (nI m) (nI n) a b row) :
    ∀ (d f j l t : Nat) (row : Nat → Int32), j + d = n + 1 → i ≤ j → d < f → l ≤ m → sw_AI (sw_H a b m) p q i j l t → wX_nearestAt_20 post J (nI i) f (nI l) (nI t) (nI j) (nI m) (nI n) a b row := by
  intro d
  induction d with
  | zero =>
    intro f j l t row hj hij hf hl hN
    obtain ⟨f, rfl⟩ : ∃ g, f = g + 1 := ⟨f - 1, by omega⟩
    obtain rfl : j = n + 1 := by omega
    exact pk_lt n (n + 1) (fun _ => nm_r (nI_1 i) (K row l t hl (sw_AIr hF hN))) (fun h => absurd h (by omega))
  | succ d ih =>
    intro f j l t row hj hij hf hl hN
    obtain ⟨f, rfl⟩ : ∃ g, f = g + 1 := ⟨f - 1, by omega⟩
    have hb := sw_Hb a b m i j
    refine pk_lt n j (fun h => absurd h (by omega)) (fun _ => ?_)
    refine sw_xchanges 0 m i (j - i) hn (by omega) (by omega) (by omega) (by omega) (fun row' => ?_)
    refine pk_le l (sw_H a b m i j) (fun c => nm_r (nI_1 j) ?_) (fun c => nm_r (sw_16 i j) (nm_r (nI_1 j) ?_))
    · exact ih f (j + 1) l t row' (by omega) (by omega) (by omega) hl (sw_AIk hF hN c)
    · exact ih f (j + 1) (sw_H a b m i j) (16 * i + j) row' (by omega) (by omega) (by omega) (by omega) (sw_AIu hF hij (by omega) hN c)
theorem sw_xa9 {post : Int32 → SX → Prop} {a b : Nat → Int32} {m n p q : Nat} (hm : m ≤ 10) (hn : n ≤ 14) (hF : sw_First (sw_H a b m) n p q)
    (K : ∀ row, post (nI (16 * p + q)) (nI m, nI n, a, b, row)) :
    ∀ (d f i l t : Nat) (row : Nat → Int32), i + d = n + 1 → d < f → l ≤ m → sw_AI (sw_H a b m) p q i i l t → wX_nearestAt_9 post f (nI l) (nI t) (nI i) (nI m) (nI n) a b row := by
  intro d
  induction d with
  | zero =>
    intro f i l t row hi hf hl hN
    obtain ⟨f, rfl⟩ : ∃ g, f = g + 1 := ⟨f - 1, by omega⟩
    obtain rfl : i = n + 1 := by omega
    have h1 := hF.1
    have h2 := hF.2.1
    obtain ⟨-, rfl⟩ : l = sw_H a b m p q ∧ t = 16 * p + q := by
      rcases hN with h | ⟨g1, g2⟩
      · exact h
      · omega
    exact pk_lt n (n + 1) (fun _ => K row) (fun h => absurd h (by omega))
  | succ d ih =>
    intro f i l t row hi hf hl hN
    obtain ⟨f, rfl⟩ : ∃ g, f = g + 1 := ⟨f - 1, by omega⟩
    exact pk_lt n i (fun h => absurd h (by omega)) (fun _ => ⟨n + 2, sw_xa20 hm hn (by omega) hF (fun row' l' t' hl' hN' => ih f (i + 1) l' t' row' (by omega) (by omega) hl' hN') (n + 1 - i) (n + 2) i l t row (by omega) (by omega) (by omega) hl hN⟩)
theorem sw_xnearestAt {post : Int32 → SX → Prop} {a b row : Nat → Int32} {m n p q : Nat} (hm : m ≤ 10) (hn : n ≤ 14) (hF : sw_First (sw_H a b m) n p q)
    (K : ∀ row', post (nI (16 * p + q)) (nI m, nI n, a, b, row')) : wpX_nearestAt post (nI m, nI n, a, b, row) := by
  unfold wpX_nearestAt
  dsimp only
  refine ⟨n + 2, sw_xa9 hm hn hF K (n + 1) (n + 2) 0 m 0 row (by omega) (by omega) (Nat.le_refl m) ?_⟩
  by_cases e : p = 0 ∧ q = 0
  · obtain ⟨rfl, rfl⟩ := e
    exact Or.inl ⟨(sw_H0 a b m 0).symm, rfl⟩
  · have h := hF.2.2.2 0 0 (Nat.le_refl 0) (Nat.zero_le n) (by have := hF.1; omega)
    rw [sw_H0] at h
    exact Or.inr ⟨h, by omega⟩
/-- the greatest COMMON of A and a stretch of w letters -/
def sw_W (a b : Nat → Int32) (n m w : Nat) : Nat := sw_G (fun i => sw_C a b n 0 m i w) (n + 1 - w)
theorem sw_xg4 {post : Int32 → SX → Prop} {a b : Nat → Int32} {m n w : Nat} (hm : m ≤ 10) (hn : n ≤ 14) (hw : w ≤ n)
    (K : ∀ row, post (nI (sw_W a b n m w)) (nI m, nI n, a, b, row)) :
    ∀ (d f i : Nat) (row : Nat → Int32), i + d = n + 1 - w → d < f → wX_greatestOfWidth_4 post (nI w) f (nI (sw_G (fun i => sw_C a b n 0 m i w) i)) (nI i) (nI m) (nI n) a b row := by
  intro d
  induction d with
  | zero =>
    intro f i row hi hf
    obtain ⟨f, rfl⟩ : ∃ g, f = g + 1 := ⟨f - 1, by omega⟩
    obtain rfl : i = n + 1 - w := by omega
    exact pk_lt n (n + 1 - w + w) (fun _ => K row) (fun h => absurd h (by omega)) rfl (nI_add _ _)
  | succ d ih =>
    intro f i row hi hf
    obtain ⟨f, rfl⟩ : ∃ g, f = g + 1 := ⟨f - 1, by omega⟩
    have h1 := sw_Gb (fun i => sw_C a b n 0 m i w) m (fun i => sw_Cb a b n 0 m i w) i
    have h2 := sw_Cb a b n 0 m i w
    refine pk_lt n (i + w) (fun h => absurd h (by omega)) (fun _ => ?_) rfl (nI_add _ _)
    rw [nI_add]
    refine sw_xcommon 0 m i w hn hw (by omega) (by omega) (by omega) rfl (fun row' => ?_)
    refine sw_xlarger _ _ (by omega) (by omega) (nm_r (nI_1 i) ?_)
    exact ih f (i + 1) row' (by omega) (by omega)
theorem sw_xgreatest {post : Int32 → SX → Prop} {a b row : Nat → Int32} {m n : Nat} (w : Nat) (hm : m ≤ 10) (hn : n ≤ 14) (hw : w ≤ n)
    (K : ∀ row', post (nI (sw_W a b n m w)) (nI m, nI n, a, b, row')) : wpX_greatestOfWidth post (nI m, nI n, a, b, row) (nI w) := by
  unfold wpX_greatestOfWidth
  dsimp only
  exact ⟨n + 2, sw_xg4 hm hn hw K (n + 1 - w) (n + 2) 0 row (by omega) (by omega)⟩
theorem sw_xs2 {post : Int32 → SX → Prop} {a b : Nat → Int32} {m n : Nat} {k : Int32} (hm : m ≤ 10) (hn : n ≤ 14) :
    ∀ (d f w : Nat) (row : Nat → Int32), w + d = n + 1 → d < f → (∀ row', post (sw_sh (sw_W a b n m) k d w) (nI m, nI n, a, b, row')) → wX_shortest_2 post k f (nI w) (nI m) (nI n) a b row := by
  intro d
  induction d with
  | zero =>
    intro f w row hw hf K
    obtain ⟨f, rfl⟩ : ∃ g, f = g + 1 := ⟨f - 1, by omega⟩
    exact pk_lt n w (fun _ => K row) (fun h => absurd h (by omega))
  | succ d ih =>
    intro f w row hw hf K
    obtain ⟨f, rfl⟩ : ∃ g, f = g + 1 := ⟨f - 1, by omega⟩
    refine pk_lt n w (fun h => absurd h (by omega)) (fun _ => ?_)
    refine sw_xgreatest w hm hn (by omega) (fun row' => ?_)
    by_cases c : nI (sw_W a b n m w) < k
    · refine br_t c (nm_r (nI_1 w) (ih f (w + 1) row' (by omega) (by omega) (fun row2 => ?_)))
      have h := K row2
      rw [sw_sh_t c] at h
      exact h
    · refine br_f c ?_
      have h := K row'
      rw [sw_sh_f c] at h
      exact h
theorem sw_xshortest {post : Int32 → SX → Prop} {a b row : Nat → Int32} {m n : Nat} {k : Int32} (hm : m ≤ 10) (hn : n ≤ 14)
    (K : ∀ row', post (sw_sh (sw_W a b n m) k (n + 1) 0) (nI m, nI n, a, b, row')) : wpX_shortest post (nI m, nI n, a, b, row) k := by
  unfold wpX_shortest
  dsimp only
  exact ⟨n + 2, sw_xs2 hm hn (n + 1) (n + 2) 0 row (by omega) (by omega) K⟩
theorem sw_xr4 {post : Int32 → SX → Prop} {a b : Nat → Int32} {m n : Nat} (hm : m ≤ 10) (hn : n ≤ 14)
    (K : ∀ row, post (nI (sw_G (fun i => sw_C a b n 0 m i n) n)) (nI m, nI n, a, b, row)) :
    ∀ (d f i : Nat) (row : Nat → Int32), i + d = n → d < f → wX_rotated_4 post f (nI (sw_G (fun i => sw_C a b n 0 m i n) i)) (nI i) (nI m) (nI n) a b row := by
  intro d
  induction d with
  | zero =>
    intro f i row hi hf
    obtain ⟨f, rfl⟩ : ∃ g, f = g + 1 := ⟨f - 1, by omega⟩
    obtain rfl : i = n := by omega
    exact pk_le i i (fun _ => K row) (fun h => absurd h (by omega))
  | succ d ih =>
    intro f i row hi hf
    obtain ⟨f, rfl⟩ : ∃ g, f = g + 1 := ⟨f - 1, by omega⟩
    have h1 := sw_Gb (fun i => sw_C a b n 0 m i n) m (fun i => sw_Cb a b n 0 m i n) i
    have h2 := sw_Cb a b n 0 m i n
    refine pk_le n i (fun h => absurd h (by omega)) (fun _ => ?_)
    rw [nI_add]
    refine sw_xcommon 0 m i n hn (Nat.le_refl n) (by omega) (by omega) (by omega) rfl (fun row' => ?_)
    refine sw_xlarger _ _ (by omega) (by omega) (nm_r (nI_1 i) ?_)
    exact ih f (i + 1) row' (by omega) (by omega)
theorem sw_xrotated {post : Int32 → SX → Prop} {a b row : Nat → Int32} {m n : Nat} (hm : m ≤ 10) (hn : n ≤ 14)
    (K : ∀ row', post (nI (sw_G (fun i => sw_C a b n 0 m i n) n)) (nI m, nI n, a, b, row')) : wpX_rotated post (nI m, nI n, a, b, row) := by
  unfold wpX_rotated
  dsimp only
  exact ⟨n + 1, sw_xr4 hm hn K n (n + 1) 0 row (by omega) (by omega)⟩
/-- 1 where the stretch (i, j) counts, else 0 -/
def sw_tN (F : Nat → Nat → Nat) (i j : Nat) : Nat := if sw_tB F i j = true then 1 else 0
theorem sw_xtight1 {post : Int32 → SX → Prop} {a b row : Nat → Int32} {m n i j : Nat} (hm : m ≤ 10) (hn : n ≤ 14) (hij : i ≤ j) (hj : j ≤ n)
    (K : ∀ row', post (nI (sw_tN (sw_F a b n m) i j)) (nI m, nI n, a, b, row')) : wpX_isTight post (nI m, nI n, a, b, row) (nI i) (nI j) := by
  unfold wpX_isTight
  dsimp only
  refine pk_eq i j (fun e => ?_) (fun e => ?_)
  · have h := K row
    rw [sw_tN, if_pos (by unfold sw_tB; rw [decide_eq_true e]; rfl)] at h
    exact h
  · obtain ⟨j, rfl⟩ : ∃ g, j = g + 1 := ⟨j - 1, by omega⟩
    have b0 := sw_Cb a b n 0 m i (j + 1 - i)
    have b1 := sw_Cb a b n 0 m (i + 1) (j + 1 - (i + 1))
    have b2 := sw_Cb a b n 0 m i (j - i)
    rw [nI_1 i, nI_pred]
    refine sw_xcommon 0 m i (j + 1 - i) hn (by omega) (by omega) (by omega) (by omega) (by omega) (fun row1 => ?_)
    refine sw_xcommon 0 m (i + 1) (j + 1 - (i + 1)) hn (by omega) (by omega) (by omega) (by omega) (by omega) (fun row2 => ?_)
    refine sw_xcommon 0 m i (j - i) hn (by omega) (by omega) (by omega) (by omega) (by omega) (fun row3 => ?_)
    have h := K row3
    unfold sw_tN sw_tB at h
    rw [decide_eq_false e, Bool.false_or, Nat.add_sub_cancel] at h
    refine pk_le (sw_F a b n m i (j + 1)) (sw_F a b n m (i + 1) (j + 1)) (fun c => ?_) (fun c => ?_) rfl rfl (Nat.lt_of_le_of_lt b0 (by omega)) (Nat.lt_of_le_of_lt b1 (by omega))
    · rw [decide_eq_false (Nat.not_lt.mpr c)] at h
      exact h
    · rw [decide_eq_true c, Bool.true_and] at h
      refine pk_le (sw_F a b n m i (j + 1)) (sw_F a b n m i j) (fun c2 => ?_) (fun c2 => ?_) rfl rfl (Nat.lt_of_le_of_lt b0 (by omega)) (Nat.lt_of_le_of_lt b2 (by omega))
      · rw [decide_eq_false (Nat.not_lt.mpr c2)] at h
        exact h
      · rw [decide_eq_true c2] at h
        exact h
theorem sw_tN01 (F : Nat → Nat → Nat) (i j : Nat) : sw_tN F i j = 0 ∨ sw_tN F i j = 1 := by
  unfold sw_tN
  by_cases c : sw_tB F i j = true
  · exact Or.inr (if_pos c)
  · exact Or.inl (if_neg c)
theorem sw_xt14 {post : Int32 → SX → Prop} {J : Int32 → Int32 → Int32 → Int32 → (Nat → Int32) → (Nat → Int32) → (Nat → Int32) → Prop} {a b : Nat → Int32} {m n i c : Nat} (hm : m ≤ 10) (hn : n ≤ 14) (hi : i ≤ n)
    (K : ∀ row, J (nI (c + sw_in (sw_tN (sw_F a b n m) i) i (n + 1 - i))) (nI (i + 1)) (nI m) (nI n) a b row) :
    ∀ (d f j : Nat) (row : Nat → Int32), i + j + d = n + 1 → d < f → wX_tight_14 post J (nI i) f (nI (c + sw_in (sw_tN (sw_F a b n m) i) i j)) (nI (i + j)) (nI m) (nI n) a b row := by
  intro d
  induction d with
  | zero =>
    intro f j row hj hf
    obtain ⟨f, rfl⟩ : ∃ g, f = g + 1 := ⟨f - 1, by omega⟩
    obtain rfl : j = n + 1 - i := by omega
    exact pk_lt n (i + (n + 1 - i)) (fun _ => nm_r (nI_1 i) (K row)) (fun h => absurd h (by omega))
  | succ d ih =>
    intro f j row hj hf
    obtain ⟨f, rfl⟩ : ∃ g, f = g + 1 := ⟨f - 1, by omega⟩
    refine pk_lt n (i + j) (fun h => absurd h (by omega)) (fun _ => ?_)
    refine sw_xtight1 hm hn (by omega) (by omega) (fun row' => ?_)
    have h := ih f (j + 1) row' (by omega) (by omega)
    rw [sw_in] at h
    rcases sw_tN01 (sw_F a b n m) i (i + j) with e | e
    · rw [e] at h ⊢
      exact br_t nI_0 (nm_r (nI_1 (i + j)) h)
    · rw [e] at h ⊢
      exact br_f (nI_ne0 (by omega) (by omega)) (nm_r (nI_1 _) (nm_r (nI_1 (i + j)) h))
theorem sw_xt4 {post : Int32 → SX → Prop} {a b : Nat → Int32} {m n : Nat} (hm : m ≤ 10) (hn : n ≤ 14)
    (K : ∀ row, post (nI (sw_out (sw_tN (sw_F a b n m)) n (n + 1))) (nI m, nI n, a, b, row)) :
    ∀ (d f i : Nat) (row : Nat → Int32), i + d = n + 1 → d < f → wX_tight_4 post f (nI (sw_out (sw_tN (sw_F a b n m)) n i)) (nI i) (nI m) (nI n) a b row := by
  intro d
  induction d with
  | zero =>
    intro f i row hi hf
    obtain ⟨f, rfl⟩ : ∃ g, f = g + 1 := ⟨f - 1, by omega⟩
    obtain rfl : i = n + 1 := by omega
    exact pk_lt n (n + 1) (fun _ => K row) (fun h => absurd h (by omega))
  | succ d ih =>
    intro f i row hi hf
    obtain ⟨f, rfl⟩ : ∃ g, f = g + 1 := ⟨f - 1, by omega⟩
    refine pk_lt n i (fun h => absurd h (by omega)) (fun _ => ⟨n + 2, ?_⟩)
    exact sw_xt14 hm hn (by omega) (fun row' => ih f (i + 1) row' (by omega) (by omega)) (n + 1 - i) (n + 2) 0 row (by omega) (by omega)
theorem sw_xtight {post : Int32 → SX → Prop} {a b row : Nat → Int32} {m n : Nat} (hm : m ≤ 10) (hn : n ≤ 14)
    (K : ∀ row', post (nI (sw_out (sw_tN (sw_F a b n m)) n (n + 1))) (nI m, nI n, a, b, row')) : wpX_tight post (nI m, nI n, a, b, row) := by
  unfold wpX_tight
  dsimp only
  exact ⟨n + 2, sw_xt4 hm hn K (n + 1) (n + 2) 0 row (by omega) (by omega)⟩
