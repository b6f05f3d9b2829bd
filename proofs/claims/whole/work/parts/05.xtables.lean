/-! the class: letterB, larger, smaller, common, changes -/
theorem sw_xlet {post : Int32 → Prop} {m : Int32} {n p : Nat} {a b row : Nat → Int32} (hn : n ≤ 14) (hp : p < n + n) (h : post (b (p % n))) : wpX_letterB post (m, nI n, a, b, row) (nI p) := by
  unfold wpX_letterB
  dsimp only
  refine pk_le n p (fun c => ?_) (fun c => ?_)
  · rw [pk_sub c, nI_clamp (by omega)]
    refine ⟨vp_in_nI (by omega) (by omega), ?_⟩
    rw [Nat.mod_eq_sub_mod c, Nat.mod_eq_of_lt (by omega)] at h
    exact h
  · rw [nI_clamp (by omega)]
    refine ⟨vp_in_nI (by omega) (by omega), ?_⟩
    rw [Nat.mod_eq_of_lt c] at h
    exact h
theorem sw_xlarger {post : Int32 → Prop} (p q : Nat) (hp : p < 2 ^ 31) (hq : q < 2 ^ 31) (h : post (nI (max p q))) : wpX_larger post (nI p) (nI q) := sw_max hp hq h
theorem sw_xsmaller {post : Int32 → Prop} (p q : Nat) (hp : p < 2 ^ 31) (hq : q < 2 ^ 31) (h : post (nI (min p q))) : wpX_smaller post (nI p) (nI q) := sw_min hp hq h
theorem sw_pl (t y : Nat) : nI t + nI (y + 1) - 1 = nI (t + y) := by
  rw [nI_add]
  exact nI_pred (t + y)
theorem sw_xc45 {post : Int32 → SX → Prop} {J : Int32 → (Nat → Int32) → (Nat → Int32) → (Nat → Int32) → Prop} {x2 m : Int32} {a b A B : Nat → Int32} {n s t w i : Nat} (hn : n ≤ 14) (hw : w ≤ n) (ht : w = 0 ∨ t < n) (hs : s + i < 10)
    (hA : a (s + i) = A i) (hB : ∀ y, y < w → b ((t + y) % n) = B y)
    (K : ∀ row, sw_Full (sw_L A B) row (i + 1) w → J (nI (s + i + 1)) a b row) :
    ∀ (d f y : Nat) (row : Nat → Int32) (c : Int32), y + 1 + d = w + 1 → d < f → sw_Row (sw_L A B) row i (y + 1) w → c = nI (sw_L A B i y) →
      wX_common_45 post J x2 (nI t) (nI w) (nI (s + i)) m (nI n) f c (nI (y + 1)) a b row := by
  intro d
  induction d with
  | zero =>
    intro f y row c hy hf hR hc
    obtain ⟨f, rfl⟩ : ∃ g, f = g + 1 := ⟨f - 1, by omega⟩
    obtain rfl : y = w := by omega
    exact pk_lt y (y + 1) (fun _ => nm_r (nI_1 (s + i)) (K row (sw_RowE hR))) (fun h => absurd h (by omega))
  | succ d ih =>
    intro f y row c hy hf hR hc
    obtain ⟨f, rfl⟩ : ∃ g, f = g + 1 := ⟨f - 1, by omega⟩
    have hyw : y + 1 ≤ w := by omega
    have htn : t < n := by omega
    have ex : (nI (s + i)).toNatClampNeg = s + i := nI_clamp (by omega)
    have ey : (nI (y + 1)).toNatClampNeg = y + 1 := nI_clamp (by omega)
    have b1 := sw_Lb A B i (y + 1)
    have b2 := sw_Lb A B (i + 1) y
    have vy : vp_in (nI (y + 1)) 15 := vp_in_nI (by omega) (by omega)
    refine pk_lt w (y + 1) (fun h => absurd h (by omega)) (fun _ => ⟨vy, nm_r (e' := nI (sw_L A B i (y + 1))) ?_ ⟨vp_in_nI hs (by omega), ?_⟩⟩)
    · rw [ey]
      exact hR.2 (y + 1) (Nat.le_refl _) hyw
    · rw [sw_pl t y]
      refine sw_xlet hn (by omega) ?_
      rw [hB y (by omega), ex, hA, ey]
      by_cases q : A i = B y
      · refine br_t q ⟨vy, nm_e (nm_r (nI_1 (y + 1)) ?_)⟩
        refine ih f (y + 1) _ _ (by omega) (by omega) (sw_RowS hR ?_) rfl
        rw [hc, nI_1, sw_Le i y q]
      · refine br_f q ⟨?_, ?_⟩
        · rw [nI_pred]
          exact vp_in_nI (by omega) (by omega)
        · rw [nI_pred, nI_clamp (show y < 2 ^ 31 by omega), hR.1 y (by omega)]
          refine sw_xlarger _ _ (by omega) (by omega) ⟨vy, nm_e (nm_r (nI_1 (y + 1)) ?_)⟩
          refine ih f (y + 1) _ _ (by omega) (by omega) (sw_RowS hR ?_) rfl
          rw [sw_Ln i y q]
theorem sw_xc33 {post : Int32 → SX → Prop} {m : Int32} {a b A B : Nat → Int32} {n s k t w : Nat} (hn : n ≤ 14) (hw : w ≤ n) (ht : w = 0 ∨ t < n) (hs : s + k ≤ 10)
    (hA : ∀ i, i < k → a (s + i) = A i) (hB : ∀ y, y < w → b ((t + y) % n) = B y)
    (K : ∀ row, post (nI (sw_L A B k w)) (m, nI n, a, b, row)) :
    ∀ (d f i : Nat) (row : Nat → Int32), i + d = k → d < f → sw_Full (sw_L A B) row i w →
      wX_common_33 post (nI (s + k)) (nI t) (nI w) m (nI n) f (nI (s + i)) a b row := by
  intro d
  induction d with
  | zero =>
    intro f i row hi hf hF
    obtain ⟨f, rfl⟩ : ∃ g, f = g + 1 := ⟨f - 1, by omega⟩
    obtain rfl : i = k := by omega
    refine pk_le (s + i) (s + i) (fun _ => ⟨vp_in_nI (by omega) (by omega), ?_⟩) (fun h => absurd h (by omega))
    rw [nI_clamp (show w < 2 ^ 31 by omega), hF w (Nat.le_refl _)]
    exact K row
  | succ d ih =>
    intro f i row hi hf hF
    obtain ⟨f, rfl⟩ : ∃ g, f = g + 1 := ⟨f - 1, by omega⟩
    refine pk_le (s + k) (s + i) (fun h => absurd h (by omega)) (fun _ => ⟨w + 1, ?_⟩)
    refine sw_xc45 (A := A) (B := B) hn hw ht (by omega) (hA i (by omega)) hB (fun row' h' => ih f (i + 1) row' (by omega) (by omega) h') w (w + 1) 0 row 0 (by omega) (by omega) (sw_RowB hF ?_) ?_
    · rw [hF 0 (Nat.zero_le _), sw_Lz, sw_Lz]
    · rw [sw_Lz]
      rfl
theorem sw_xc9 {post : Int32 → SX → Prop} {m : Int32} {a b A B : Nat → Int32} {n s k t w : Nat} (hn : n ≤ 14) (hw : w ≤ n) (ht : w = 0 ∨ t < n) (hs : s + k ≤ 10)
    (hA : ∀ i, i < k → a (s + i) = A i) (hB : ∀ y, y < w → b ((t + y) % n) = B y)
    (K : ∀ row, post (nI (sw_L A B k w)) (m, nI n, a, b, row)) :
    ∀ (d f y : Nat) (row : Nat → Int32), y + d = w + 1 → d < f → (∀ q, q < y → row q = nI 0) →
      wX_common_9 post (nI s) (nI (s + k)) (nI t) (nI w) m (nI n) f (nI y) a b row := by
  intro d
  induction d with
  | zero =>
    intro f y row hy hf hF
    obtain ⟨f, rfl⟩ : ∃ g, f = g + 1 := ⟨f - 1, by omega⟩
    exact pk_lt w y (fun _ => ⟨k + 1, sw_xc33 (A := A) (B := B) hn hw ht hs hA hB K k (k + 1) 0 row (by omega) (by omega) (fun q hq => hF q (by omega))⟩) (fun h => absurd h (by omega))
  | succ d ih =>
    intro f y row hy hf hF
    obtain ⟨f, rfl⟩ : ∃ g, f = g + 1 := ⟨f - 1, by omega⟩
    refine pk_lt w y (fun h => absurd h (by omega)) (fun _ => ⟨vp_in_nI (by omega) (by omega), nm_e (nm_r (nI_1 y) ?_)⟩)
    rw [nI_clamp (show y < 2 ^ 31 by omega)]
    exact ih f (y + 1) _ (by omega) (by omega) (sw_FillS (f := fun _ => 0) hF rfl)
/-- common: the answer is COMMON of the two stretches, and only the row is another -/
theorem sw_xcommon {post : Int32 → SX → Prop} {a b row : Nat → Int32} {m : Int32} {n e g : Nat} (s k t w : Nat) (hn : n ≤ 14) (hw : w ≤ n) (ht : w = 0 ∨ t < n) (hs : s + k ≤ 10) (he : e = s + k) (hg : g = t + w)
    (K : ∀ row', post (nI (sw_C a b n s k t w)) (m, nI n, a, b, row')) : wpX_common post (m, nI n, a, b, row) (nI s) (nI e) (nI t) (nI g) := by
  subst he hg
  unfold wpX_common
  dsimp only
  refine nm_r (e' := nI w) ?_ ⟨w + 2, ?_⟩
  · rw [pk_sub (by omega)]
    exact congrArg nI (by omega)
  · exact sw_xc9 (A := fun x => a (s + x)) (B := fun y => b ((t + y) % n)) hn hw ht hs (fun _ _ => rfl) (fun _ _ => rfl) K (w + 1) (w + 2) 0 row (by omega) (by omega) (fun q hq => absurd hq (Nat.not_lt_zero q))
theorem sw_xd61 {post : Int32 → SX → Prop} {J : Int32 → (Nat → Int32) → (Nat → Int32) → (Nat → Int32) → Prop} {x2 m : Int32} {a b A B : Nat → Int32} {n s t w i : Nat} (hn : n ≤ 14) (hw : w ≤ n) (ht : t + w ≤ n) (hs : s + i < 10)
    (hA : a (s + i) = A i) (hB : ∀ y, y < w → b ((t + y) % n) = B y)
    (K : ∀ row, sw_Full (sw_D A B) row (i + 1) w → J (nI (s + i + 1)) a b row) :
    ∀ (d f y : Nat) (row : Nat → Int32) (c : Int32), y + 1 + d = w + 1 → d < f → sw_Row (sw_D A B) row i (y + 1) w → c = nI (sw_D A B i y) →
      wX_changes_61 post J x2 (nI t) (nI w) (nI (s + i)) m (nI n) f c (nI (y + 1)) a b row := by
  intro d
  induction d with
  | zero =>
    intro f y row c hy hf hR hc
    obtain ⟨f, rfl⟩ : ∃ g, f = g + 1 := ⟨f - 1, by omega⟩
    obtain rfl : y = w := by omega
    exact pk_lt y (y + 1) (fun _ => nm_r (nI_1 (s + i)) (K row (sw_RowE hR))) (fun h => absurd h (by omega))
  | succ d ih =>
    intro f y row c hy hf hR hc
    obtain ⟨f, rfl⟩ : ∃ g, f = g + 1 := ⟨f - 1, by omega⟩
    have hyw : y + 1 ≤ w := by omega
    have ex : (nI (s + i)).toNatClampNeg = s + i := nI_clamp (by omega)
    have ey : (nI (y + 1)).toNatClampNeg = y + 1 := nI_clamp (by omega)
    have b0 := sw_Db A B i y
    have b1 := sw_Db A B i (y + 1)
    have b2 := sw_Db A B (i + 1) y
    have vy : vp_in (nI (y + 1)) 15 := vp_in_nI (by omega) (by omega)
    refine pk_lt w (y + 1) (fun h => absurd h (by omega)) (fun _ => ⟨vy, nm_r (e' := nI (sw_D A B i (y + 1))) ?_ ⟨vp_in_nI hs (by omega), ?_⟩⟩)
    · rw [ey]
      exact hR.2 (y + 1) (Nat.le_refl _) hyw
    · rw [sw_pl t y]
      refine sw_xlet hn (by omega) ?_
      rw [hB y (by omega), ex, hA, ey]
      by_cases q : A i = B y
      · refine br_t q ⟨vy, nm_e (nm_r (nI_1 (y + 1)) ?_)⟩
        refine ih f (y + 1) _ _ (by omega) (by omega) (sw_RowS hR ?_) rfl
        rw [hc, sw_De i y q]
      · refine br_f q ⟨?_, ?_⟩
        · rw [nI_pred]
          exact vp_in_nI (by omega) (by omega)
        · rw [nI_pred, nI_clamp (show y < 2 ^ 31 by omega), hR.1 y (by omega), hc]
          refine sw_xsmaller _ _ (by omega) (by omega) ?_
          refine sw_xsmaller _ _ (by omega) (by omega) ⟨vy, nm_e (nm_r (nI_1 (y + 1)) ?_)⟩
          refine ih f (y + 1) _ _ (by omega) (by omega) (sw_RowS hR ?_) rfl
          rw [sw_Dn i y q, nI_1]
theorem sw_xd34 {post : Int32 → SX → Prop} {m : Int32} {a b A B : Nat → Int32} {n s k t w : Nat} (hn : n ≤ 14) (hw : w ≤ n) (ht : t + w ≤ n) (hs : s + k ≤ 10)
    (hA : ∀ i, i < k → a (s + i) = A i) (hB : ∀ y, y < w → b ((t + y) % n) = B y)
    (K : ∀ row, post (nI (sw_D A B k w)) (m, nI n, a, b, row)) :
    ∀ (d f i : Nat) (row : Nat → Int32), i + d = k → d < f → sw_Full (sw_D A B) row i w →
      wX_changes_34 post (nI (s + k)) (nI t) (nI w) m (nI n) f (nI (s + i)) a b row := by
  intro d
  induction d with
  | zero =>
    intro f i row hi hf hF
    obtain ⟨f, rfl⟩ : ∃ g, f = g + 1 := ⟨f - 1, by omega⟩
    obtain rfl : i = k := by omega
    refine pk_le (s + i) (s + i) (fun _ => ⟨vp_in_nI (by omega) (by omega), ?_⟩) (fun h => absurd h (by omega))
    rw [nI_clamp (show w < 2 ^ 31 by omega), hF w (Nat.le_refl _)]
    exact K row
  | succ d ih =>
    intro f i row hi hf hF
    obtain ⟨f, rfl⟩ : ∃ g, f = g + 1 := ⟨f - 1, by omega⟩
    have h0 : row 0 = nI i := by rw [hF 0 (Nat.zero_le _), sw_Dz]
    refine pk_le (s + k) (s + i) (fun h => absurd h (by omega)) (fun _ => nm_r h0 (nm_r (e' := upd row 0 (nI (i + 1))) (by rw [nI_1]) ⟨w + 1, ?_⟩))
    refine sw_xd61 (A := A) (B := B) hn hw ht (by omega) (hA i (by omega)) hB (fun row' h' => ih f (i + 1) row' (by omega) (by omega) h') w (w + 1) 0 _ _ (by omega) (by omega) ⟨?_, ?_⟩ ?_
    · intro q hq
      obtain rfl : q = 0 := by omega
      rw [pk_us, sw_Dz]
    · intro q h1 h2
      rw [pk_un (by omega)]
      exact hF q h2
    · rw [sw_Dz]
theorem sw_xd9 {post : Int32 → SX → Prop} {m : Int32} {a b A B : Nat → Int32} {n s k t w : Nat} (hn : n ≤ 14) (hw : w ≤ n) (ht : t + w ≤ n) (hs : s + k ≤ 10)
    (hA : ∀ i, i < k → a (s + i) = A i) (hB : ∀ y, y < w → b ((t + y) % n) = B y)
    (K : ∀ row, post (nI (sw_D A B k w)) (m, nI n, a, b, row)) :
    ∀ (d f y : Nat) (row : Nat → Int32), y + d = w + 1 → d < f → (∀ q, q < y → row q = nI q) →
      wX_changes_9 post (nI s) (nI (s + k)) (nI t) (nI w) m (nI n) f (nI y) a b row := by
  intro d
  induction d with
  | zero =>
    intro f y row hy hf hF
    obtain ⟨f, rfl⟩ : ∃ g, f = g + 1 := ⟨f - 1, by omega⟩
    exact pk_lt w y (fun _ => ⟨k + 1, sw_xd34 (A := A) (B := B) hn hw ht hs hA hB K k (k + 1) 0 row (by omega) (by omega) (fun q hq => hF q (by omega))⟩) (fun h => absurd h (by omega))
  | succ d ih =>
    intro f y row hy hf hF
    obtain ⟨f, rfl⟩ : ∃ g, f = g + 1 := ⟨f - 1, by omega⟩
    refine pk_lt w y (fun h => absurd h (by omega)) (fun _ => ⟨vp_in_nI (by omega) (by omega), nm_e (nm_r (nI_1 y) ?_)⟩)
    rw [nI_clamp (show y < 2 ^ 31 by omega)]
    exact ih f (y + 1) _ (by omega) (by omega) (sw_FillS (f := fun q => q) hF rfl)
/-- changes: the answer is CHANGES of the two stretches, and only the row is another -/
theorem sw_xchanges {post : Int32 → SX → Prop} {a b row : Nat → Int32} {m : Int32} {n e g : Nat} (s k t w : Nat) (hn : n ≤ 14) (ht : t + w ≤ n) (hs : s + k ≤ 10) (he : e = s + k) (hg : g = t + w)
    (K : ∀ row', post (nI (sw_E a b s k t w)) (m, nI n, a, b, row')) : wpX_changes post (m, nI n, a, b, row) (nI s) (nI e) (nI t) (nI g) := by
  subst he hg
  unfold wpX_changes
  dsimp only
  refine nm_r (e' := nI w) ?_ ⟨w + 2, ?_⟩
  · rw [pk_sub (by omega)]
    exact congrArg nI (by omega)
  · exact sw_xd9 (A := fun x => a (s + x)) (B := fun y => b (t + y)) hn (by omega) ht hs (fun _ _ => rfl) (fun y hy => congrArg b (Nat.mod_eq_of_lt (by omega))) K (w + 1) (w + 2) 0 row (by omega) (by omega) (fun q hq => absurd hq (Nat.not_lt_zero q))
