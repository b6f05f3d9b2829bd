/-! the reference: least, common, changes -/
theorem sw_yleast {post : Int32 → Prop} {u : SY} (p q : Nat) (hp : p < 2 ^ 31) (hq : q < 2 ^ 31) (h : post (nI (min p q))) : wpY_least post u (nI p) (nI q) := by
  obtain ⟨f_m, f_n, a_a, a_b, a_table, a_of⟩ := u
  exact sw_min hp hq h
theorem sw_ix (x y : Nat) : nI x * 15 + nI y = nI (x * 15 + y) := by
  rw [show (15 : Int32) = nI 15 from rfl, pk_mul, nI_add]
theorem sw_ixu (x y : Nat) : (nI (x + 1) - 1) * 15 + nI y = nI (x * 15 + y) := by
  rw [nI_pred, sw_ix]
theorem sw_ixl (x y : Nat) : nI x * 15 + nI (y + 1) - 1 = nI (x * 15 + y) := by
  rw [sw_ix]
  exact nI_pred (x * 15 + y)
theorem sw_ixc (x y : Nat) : (nI (x + 1) - 1) * 15 + nI (y + 1) - 1 = nI (x * 15 + y) := by
  rw [nI_pred, sw_ixl]
theorem sw_yc133 {post : Int32 → SY → Prop} {J3 J12 : Int32 → (Nat → Int32) → (Nat → Int32) → (Nat → Int32) → (Nat → Int32) → Prop} {x1 x2 x3 x4 m n v : Int32} {a b tab ofs : Nat → Int32} {x y : Nat} (hx : x ≤ 10) (hy : y ≤ 14)
    (h : J12 (nI (y + 1)) a b (upd tab (x * 15 + y) v) ofs) : wY_common_133 post J3 J12 x1 x2 x3 x4 (nI x) (nI y) v m n a b tab ofs := by
  unfold wY_common_133
  rw [sw_ix, nI_clamp (show x * 15 + y < 2 ^ 31 by omega)]
  exact ⟨vp_in_nI (by omega) (by omega), nm_e (nm_r (nI_1 y) h)⟩
theorem sw_yc80 {post : Int32 → SY → Prop} {J3 J12 : Int32 → (Nat → Int32) → (Nat → Int32) → (Nat → Int32) → (Nat → Int32) → Prop} {x2 x4 m z : Int32} {a b A B tab ofs : Nat → Int32} {n s t x y : Nat} (hn : n ≤ 14) (h0 : 0 < n) (ht : t ≤ 14) (hx : s + x < 10) (hy : y + 1 ≤ 14)
    (hA : a (s + x) = A x) (hB : b ((t + y) % n) = B y) (hc : tab (x * 15 + y) = nI (sw_L A B x y)) (hz : z = nI (max (sw_L A B x (y + 1)) (sw_L A B (x + 1) y)))
    (h : J12 (nI (y + 1 + 1)) a b (upd tab ((x + 1) * 15 + (y + 1)) (nI (sw_L A B (x + 1) (y + 1)))) ofs) : wY_common_80 post J3 J12 (nI s) x2 (nI t) x4 (nI (x + 1)) (nI (y + 1)) z m (nI n) a b tab ofs := by
  have hm : (t + y) % n < n := Nat.mod_lt _ h0
  unfold wY_common_80
  rw [sw_pl s x, sw_pl t y, pk_rem (show t + y < 2 ^ 31 by omega) h0 (show n < 2 ^ 31 by omega), nI_clamp (show s + x < 2 ^ 31 by omega), nI_clamp (show (t + y) % n < 2 ^ 31 by omega), sw_ixc x y, nI_clamp (show x * 15 + y < 2 ^ 31 by omega), hA, hB, hc]
  refine ⟨vp_in_nI hx (by omega), nI_ne0 h0 (by omega), vp_in_nI (by omega) (by omega), ?_⟩
  by_cases q : A x = B y
  · refine br_t q ⟨vp_in_nI (by omega) (by omega), nm_r (e' := nI (sw_L A B (x + 1) (y + 1))) ?_ (sw_yc133 (by omega) hy h)⟩
    rw [nI_1, sw_Le x y q]
  · refine br_f q (sw_yc133 (by omega) hy ?_)
    rw [hz, ← sw_Ln x y q]
    exact h
theorem sw_yc12 {post : Int32 → SY → Prop} {J3 : Int32 → (Nat → Int32) → (Nat → Int32) → (Nat → Int32) → (Nat → Int32) → Prop} {m : Int32} {a b A B ofs : Nat → Int32} {n s k t j x : Nat} (hn : n ≤ 14) (hj : j ≤ n) (ht : t ≤ 14) (hs : s + k ≤ 10) (hx : x ≤ k)
    (hA : ∀ i, i < k → a (s + i) = A i) (hB : ∀ y, y < j → b ((t + y) % n) = B y)
    (K : ∀ tab, sw_Tab (sw_L A B) tab (x + 1) 0 j → J3 (nI (x + 1)) a b tab ofs) :
    ∀ (d f y : Nat) (tab : Nat → Int32), y + d = j + 1 → d < f → sw_Tab (sw_L A B) tab x y j →
      wY_common_12 post J3 (nI s) (nI k) (nI t) (nI j) (nI x) m (nI n) f (nI y) a b tab ofs := by
  intro d
  induction d with
  | zero =>
    intro f y tab hy hf hT
    obtain ⟨f, rfl⟩ : ∃ g, f = g + 1 := ⟨f - 1, by omega⟩
    obtain rfl : y = j + 1 := by omega
    exact pk_lt j (j + 1) (fun _ => nm_r (nI_1 x) (K tab (sw_TabR hT))) (fun h => absurd h (by omega))
  | succ d ih =>
    intro f y tab hy hf hT
    obtain ⟨f, rfl⟩ : ∃ g, f = g + 1 := ⟨f - 1, by omega⟩
    have go : ∀ v : Int32, v = nI (sw_L A B x y) → wY_common_12 post J3 (nI s) (nI k) (nI t) (nI j) (nI x) m (nI n) f (nI (y + 1)) a b (upd tab (x * 15 + y) v) ofs :=
      fun v hv => ih f (y + 1) _ (by omega) (by omega) (sw_TabS hT (by omega) (by omega) hv)
    refine pk_lt j y (fun h => absurd h (by omega)) (fun _ => ?_)
    cases x with
    | zero => exact pk_le 0 0 (fun _ => sw_yc133 (by omega) (by omega) (go 0 rfl)) (fun h => absurd h (by omega))
    | succ x =>
      refine pk_le (x + 1) 0 (fun h => absurd h (by omega)) (fun _ => ?_)
      cases y with
      | zero => exact pk_le 0 0 (fun _ => sw_yc133 (by omega) (by omega) (go 0 (by rw [sw_Lz]; rfl))) (fun h => absurd h (by omega))
      | succ y =>
        have b1 := sw_Lb A B x (y + 1)
        have b2 := sw_Lb A B (x + 1) y
        refine pk_le (y + 1) 0 (fun h => absurd h (by omega)) (fun _ => ?_)
        rw [sw_ixu x (y + 1), sw_ixl (x + 1) y, nI_clamp (show x * 15 + (y + 1) < 2 ^ 31 by omega), nI_clamp (show (x + 1) * 15 + y < 2 ^ 31 by omega)]
        refine ⟨vp_in_nI (by omega) (by omega), nm_r (hT x (y + 1) (by omega) (Or.inl (by omega))) ⟨vp_in_nI (by omega) (by omega), nm_r (hT (x + 1) y (by omega) (Or.inr ⟨rfl, by omega⟩)) ?_⟩⟩
        have H : ∀ z, z = nI (max (sw_L A B x (y + 1)) (sw_L A B (x + 1) y)) → wY_common_80 post J3 (wY_common_12 post J3 (nI s) (nI k) (nI t) (nI j) (nI (x + 1)) m (nI n) f) (nI s) (nI k) (nI t) (nI j) (nI (x + 1)) (nI (y + 1)) z m (nI n) a b tab ofs :=
          fun z hz => sw_yc80 hn (by omega) ht (by omega) (by omega) (hA x (by omega)) (hB y (by omega)) (hT x y (by omega) (Or.inl (by omega))) hz (go _ rfl)
        exact pk_le (sw_L A B x (y + 1)) (sw_L A B (x + 1) y) (fun c => H _ (by rw [Nat.max_eq_right c])) (fun c => H _ (by rw [Nat.max_eq_left (Nat.le_of_lt c)]))
theorem sw_yc3 {post : Int32 → SY → Prop} {m : Int32} {a b A B ofs : Nat → Int32} {n s k t j : Nat} (hn : n ≤ 14) (hj : j ≤ n) (ht : t ≤ 14) (hs : s + k ≤ 10)
    (hA : ∀ i, i < k → a (s + i) = A i) (hB : ∀ y, y < j → b ((t + y) % n) = B y)
    (K : ∀ tab, post (nI (sw_L A B k j)) (m, nI n, a, b, tab, ofs)) :
    ∀ (d f x : Nat) (tab : Nat → Int32), x + d = k + 1 → d < f → sw_Tab (sw_L A B) tab x 0 j →
      wY_common_3 post (nI s) (nI k) (nI t) (nI j) m (nI n) f (nI x) a b tab ofs := by
  intro d
  induction d with
  | zero =>
    intro f x tab hx hf hT
    obtain ⟨f, rfl⟩ : ∃ g, f = g + 1 := ⟨f - 1, by omega⟩
    refine pk_lt k x (fun _ => ?_) (fun h => absurd h (by omega))
    rw [sw_ix, nI_clamp (show k * 15 + j < 2 ^ 31 by omega), hT k j (Nat.le_refl _) (Or.inl (by omega))]
    exact ⟨vp_in_nI (by omega) (by omega), K tab⟩
  | succ d ih =>
    intro f x tab hx hf hT
    obtain ⟨f, rfl⟩ : ∃ g, f = g + 1 := ⟨f - 1, by omega⟩
    exact pk_lt k x (fun h => absurd h (by omega)) (fun _ => ⟨j + 2, sw_yc12 (A := A) (B := B) hn hj ht hs (by omega) hA hB (fun tab' h' => ih f (x + 1) tab' (by omega) (by omega) h') (j + 1) (j + 2) 0 tab (by omega) (by omega) hT⟩)
/-- common: the answer is COMMON of the two stretches, and only the table is another -/
theorem sw_ycommon {post : Int32 → SY → Prop} {a b tab ofs : Nat → Int32} {m : Int32} {n : Nat} (s k t j : Nat) (hn : n ≤ 14) (hj : j ≤ n) (ht : t ≤ 14) (hs : s + k ≤ 10)
    (K : ∀ tab', post (nI (sw_C a b n s k t j)) (m, nI n, a, b, tab', ofs)) : wpY_common post (m, nI n, a, b, tab, ofs) (nI s) (nI k) (nI t) (nI j) := by
  unfold wpY_common
  dsimp only
  exact ⟨k + 2, sw_yc3 (A := fun x => a (s + x)) (B := fun y => b ((t + y) % n)) hn hj ht hs (fun _ _ => rfl) (fun _ _ => rfl) K (k + 1) (k + 2) 0 tab (by omega) (by omega) (sw_Tab0 _ _ _)⟩
theorem sw_yd141 {post : Int32 → SY → Prop} {J3 J12 : Int32 → (Nat → Int32) → (Nat → Int32) → (Nat → Int32) → (Nat → Int32) → Prop} {x1 x2 x3 x4 m n v : Int32} {a b tab ofs : Nat → Int32} {x y : Nat} (hx : x ≤ 10) (hy : y ≤ 14)
    (h : J12 (nI (y + 1)) a b (upd tab (x * 15 + y) v) ofs) : wY_changes_141 post J3 J12 x1 x2 x3 x4 (nI x) (nI y) v m n a b tab ofs := by
  unfold wY_changes_141
  rw [sw_ix, nI_clamp (show x * 15 + y < 2 ^ 31 by omega)]
  exact ⟨vp_in_nI (by omega) (by omega), nm_e (nm_r (nI_1 y) h)⟩
theorem sw_yd73 {post : Int32 → SY → Prop} {J3 J12 : Int32 → (Nat → Int32) → (Nat → Int32) → (Nat → Int32) → (Nat → Int32) → Prop} {x1 x2 x3 x4 m n : Int32} {a b tab ofs : Nat → Int32} {x y o u l c : Nat} (hx : x + 1 ≤ 10) (hy : y + 1 ≤ 14) (ho : o ≤ 1) (bu : u < 100) (bl : l < 100) (bc : c < 100)
    (hu : tab (x * 15 + (y + 1)) = nI u) (hl : tab ((x + 1) * 15 + y) = nI l) (hc : tab (x * 15 + y) = nI c)
    (h : J12 (nI (y + 1 + 1)) a b (upd tab ((x + 1) * 15 + (y + 1)) (nI (min (c + o) (min u l + 1)))) ofs) : wY_changes_73 post J3 J12 x1 x2 x3 x4 (nI (x + 1)) (nI (y + 1)) (nI o) m n a b tab ofs := by
  unfold wY_changes_73
  rw [sw_ixc x y, sw_ixu x (y + 1), sw_ixl (x + 1) y, nI_clamp (show x * 15 + (y + 1) < 2 ^ 31 by omega), nI_clamp (show (x + 1) * 15 + y < 2 ^ 31 by omega), nI_clamp (show x * 15 + y < 2 ^ 31 by omega), hu, hl, hc, nI_add]
  refine ⟨vp_in_nI (by omega) (by omega), vp_in_nI (by omega) (by omega), sw_yleast u l (by omega) (by omega) (nm_r (nI_1 _) ⟨vp_in_nI (by omega) (by omega), ?_⟩)⟩
  exact sw_yleast (c + o) (min u l + 1) (by omega) (by omega) (sw_yd141 (by omega) hy h)
theorem sw_yd12 {post : Int32 → SY → Prop} {J3 : Int32 → (Nat → Int32) → (Nat → Int32) → (Nat → Int32) → (Nat → Int32) → Prop} {m n : Int32} {a b A B ofs : Nat → Int32} {s k t j x : Nat} (hj : t + j ≤ 14) (hs : s + k ≤ 10) (hx : x ≤ k)
    (hA : ∀ i, i < k → a (s + i) = A i) (hB : ∀ y, y < j → b (t + y) = B y)
    (K : ∀ tab, sw_Tab (sw_D A B) tab (x + 1) 0 j → J3 (nI (x + 1)) a b tab ofs) :
    ∀ (d f y : Nat) (tab : Nat → Int32), y + d = j + 1 → d < f → sw_Tab (sw_D A B) tab x y j →
      wY_changes_12 post J3 (nI s) (nI k) (nI t) (nI j) (nI x) m n f (nI y) a b tab ofs := by
  intro d
  induction d with
  | zero =>
    intro f y tab hy hf hT
    obtain ⟨f, rfl⟩ : ∃ g, f = g + 1 := ⟨f - 1, by omega⟩
    obtain rfl : y = j + 1 := by omega
    exact pk_lt j (j + 1) (fun _ => nm_r (nI_1 x) (K tab (sw_TabR hT))) (fun h => absurd h (by omega))
  | succ d ih =>
    intro f y tab hy hf hT
    obtain ⟨f, rfl⟩ : ∃ g, f = g + 1 := ⟨f - 1, by omega⟩
    have go : ∀ v : Int32, v = nI (sw_D A B x y) → wY_changes_12 post J3 (nI s) (nI k) (nI t) (nI j) (nI x) m n f (nI (y + 1)) a b (upd tab (x * 15 + y) v) ofs :=
      fun v hv => ih f (y + 1) _ (by omega) (by omega) (sw_TabS hT (by omega) (by omega) hv)
    refine pk_lt j y (fun h => absurd h (by omega)) (fun _ => ?_)
    cases x with
    | zero =>
      refine pk_eq 0 0 (fun _ => ?_) (fun h => absurd rfl h)
      unfold wY_changes_31
      exact pk_le 0 0 (fun _ => sw_yd141 (by omega) (by omega) (go _ rfl)) (fun h => absurd h (by omega))
    | succ x =>
      refine pk_eq (x + 1) 0 (fun h => absurd h (by omega)) (fun _ => ?_)
      unfold wY_changes_31
      refine pk_le (x + 1) 0 (fun h => absurd h (by omega)) (fun _ => ?_)
      cases y with
      | zero => exact pk_le 0 0 (fun _ => sw_yd141 (by omega) (by omega) (go _ (by rw [sw_Dz]))) (fun h => absurd h (by omega))
      | succ y =>
        have b0 := sw_Db A B x y
        have b1 := sw_Db A B x (y + 1)
        have b2 := sw_Db A B (x + 1) y
        refine pk_le (y + 1) 0 (fun h => absurd h (by omega)) (fun _ => ?_)
        rw [sw_pl s x, sw_pl t y, nI_clamp (show s + x < 2 ^ 31 by omega), nI_clamp (show t + y < 2 ^ 31 by omega), hA x (by omega), hB y (by omega)]
        refine ⟨vp_in_nI (by omega) (by omega), vp_in_nI (by omega) (by omega), ?_⟩
        have hu := hT x (y + 1) (by omega) (Or.inl (by omega))
        have hl := hT (x + 1) y (by omega) (Or.inr ⟨rfl, by omega⟩)
        have hc := hT x y (by omega) (Or.inl (by omega))
        by_cases q : A x = B y
        · exact br_t q (sw_yd73 (o := 0) (by omega) (by omega) (by omega) (by omega) (by omega) (by omega) hu hl hc (go _ (by rw [sw_Dre x y q])))
        · exact br_f q (sw_yd73 (o := 1) (by omega) (by omega) (by omega) (by omega) (by omega) (by omega) hu hl hc (go _ (by rw [sw_Drn x y q])))
theorem sw_yd3 {post : Int32 → SY → Prop} {m n : Int32} {a b A B ofs : Nat → Int32} {s k t j : Nat} (hj : t + j ≤ 14) (hs : s + k ≤ 10)
    (hA : ∀ i, i < k → a (s + i) = A i) (hB : ∀ y, y < j → b (t + y) = B y)
    (K : ∀ tab, post (nI (sw_D A B k j)) (m, n, a, b, tab, ofs)) :
    ∀ (d f x : Nat) (tab : Nat → Int32), x + d = k + 1 → d < f → sw_Tab (sw_D A B) tab x 0 j →
      wY_changes_3 post (nI s) (nI k) (nI t) (nI j) m n f (nI x) a b tab ofs := by
  intro d
  induction d with
  | zero =>
    intro f x tab hx hf hT
    obtain ⟨f, rfl⟩ : ∃ g, f = g + 1 := ⟨f - 1, by omega⟩
    refine pk_lt k x (fun _ => ?_) (fun h => absurd h (by omega))
    rw [sw_ix, nI_clamp (show k * 15 + j < 2 ^ 31 by omega), hT k j (Nat.le_refl _) (Or.inl (by omega))]
    exact ⟨vp_in_nI (by omega) (by omega), K tab⟩
  | succ d ih =>
    intro f x tab hx hf hT
    obtain ⟨f, rfl⟩ : ∃ g, f = g + 1 := ⟨f - 1, by omega⟩
    exact pk_lt k x (fun h => absurd h (by omega)) (fun _ => ⟨j + 2, sw_yd12 (A := A) (B := B) hj hs (by omega) hA hB (fun tab' h' => ih f (x + 1) tab' (by omega) (by omega) h') (j + 1) (j + 2) 0 tab (by omega) (by omega) hT⟩)
/-- changes: the answer is CHANGES of the two stretches, and only the table is another -/
theorem sw_ychanges {post : Int32 → SY → Prop} {a b tab ofs : Nat → Int32} {m n : Int32} (s k t j : Nat) (hj : t + j ≤ 14) (hs : s + k ≤ 10)
    (K : ∀ tab', post (nI (sw_E a b s k t j)) (m, n, a, b, tab', ofs)) : wpY_changes post (m, n, a, b, tab, ofs) (nI s) (nI k) (nI t) (nI j) := by
  unfold wpY_changes
  dsimp only
  exact ⟨k + 2, sw_yd3 (A := fun x => a (s + x)) (B := fun y => b (t + y)) hj hs (fun _ _ => rfl) (fun _ _ => rfl) K (k + 1) (k + 2) 0 tab (by omega) (by omega) (sw_Tab0 _ _ _)⟩
