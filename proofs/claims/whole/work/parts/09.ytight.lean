/-! the reference's isTight and tight -/
def sw_TI (F : Nat → Nat → Nat) (i j k l : Nat) : Prop := ∀ k' l', i ≤ k' → k' ≤ l' → l' ≤ j → (k' < k ∨ (k' = k ∧ l' < l)) → (k' ≠ i ∨ l' ≠ j) → F k' l' < F i j
theorem sw_TIs {F : Nat → Nat → Nat} {i j k l : Nat} (H : sw_TI F i j k l) (h : (k ≠ i ∨ l ≠ j) → F k l < F i j) : sw_TI F i j k (l + 1) := by
  intro k' l' h1 h2 h3 h4 h5
  by_cases e : k' = k ∧ l' = l
  · obtain ⟨rfl, rfl⟩ := e
    exact h h5
  · exact H k' l' h1 h2 h3 (by omega) h5
theorem sw_TIr {F : Nat → Nat → Nat} {i j k : Nat} (H : sw_TI F i j k (j + 1)) : sw_TI F i j (k + 1) (k + 1) := by
  intro k' l' h1 h2 h3 h4 h5
  exact H k' l' h1 h2 h3 (by omega) h5
def sw_OF (F : Nat → Nat → Nat) (n : Nat) (ofs : Nat → Int32) (i j : Nat) : Prop := ∀ k l, k ≤ l → l ≤ n → (k < i ∨ (k = i ∧ l < j)) → ofs (k * 15 + l) = nI (F k l)
theorem sw_yt32 {post : Int32 → Prop} {J2 J10 : Int32 → Prop} {fm fn : Int32} {a b tab ofs : Nat → Int32} {F : Nat → Nat → Nat} {i j k l : Nat} (hij : i ≤ j) (hj : j ≤ 14) (hik : i ≤ k) (hkl : k ≤ l) (hl : l ≤ j) (ho : k ≠ i ∨ l ≠ j)
    (b1 : F k l ≤ 10) (b2 : F i j ≤ 10) (e1 : ofs (k * 15 + l) = nI (F k l)) (e2 : ofs (i * 15 + j) = nI (F i j)) (h0 : ¬ sw_T F i j → post 0)
    (K : F k l < F i j → J10 (nI (l + 1))) : wY_isTight_32 post J2 J10 (nI i) (nI j) (nI k) (nI l) 1 fm fn a b tab ofs := by
  unfold wY_isTight_32
  rw [sw_ix, sw_ix, nI_clamp (show k * 15 + l < 2 ^ 31 by omega), nI_clamp (show i * 15 + j < 2 ^ 31 by omega), e1, e2]
  refine br_f (by decide) ⟨vp_in_nI (by omega) (by omega), vp_in_nI (by omega) (by omega), ?_⟩
  refine pk_lt (F k l) (F i j) (fun c => nm_r (nI_1 l) (K c)) (fun c => h0 (fun T => ?_))
  have := T k l hik hkl hl ho
  omega
theorem sw_yt10 {post : Int32 → Prop} {J2 : Int32 → Prop} {fm fn : Int32} {a b tab ofs : Nat → Int32} {F : Nat → Nat → Nat} {n i j k : Nat} (hn : n ≤ 14) (hij : i ≤ j) (hj : j ≤ n) (hik : i ≤ k) (hkj : k ≤ j)
    (hb : ∀ k l, F k l ≤ 10) (hO : ∀ k l, k ≤ l → l ≤ n → ofs (k * 15 + l) = nI (F k l)) (h0 : ¬ sw_T F i j → post 0)
    (K : sw_TI F i j (k + 1) (k + 1) → J2 (nI (k + 1))) :
    ∀ (d f l : Nat), l + d = j + 1 → k ≤ l → d < f → sw_TI F i j k l → wY_isTight_10 post J2 (nI i) (nI j) (nI k) fm fn a b tab ofs f (nI l) := by
  intro d
  induction d with
  | zero =>
    intro f l hl hkl hf hT
    obtain ⟨f, rfl⟩ : ∃ g, f = g + 1 := ⟨f - 1, by omega⟩
    obtain rfl : l = j + 1 := by omega
    exact pk_lt j (j + 1) (fun _ => nm_r (nI_1 k) (K (sw_TIr hT))) (fun h => absurd h (by omega))
  | succ d ih =>
    intro f l hl hkl hf hT
    obtain ⟨f, rfl⟩ : ∃ g, f = g + 1 := ⟨f - 1, by omega⟩
    have other : (k ≠ i ∨ l ≠ j) → wY_isTight_32 post J2 (wY_isTight_10 post J2 (nI i) (nI j) (nI k) fm fn a b tab ofs f) (nI i) (nI j) (nI k) (nI l) 1 fm fn a b tab ofs :=
      fun ho => sw_yt32 hij (by omega) hik hkl (by omega) ho (hb k l) (hb i j) (hO k l hkl (by omega)) (hO i j hij hj) h0 (fun c => ih f (l + 1) (by omega) (by omega) (by omega) (sw_TIs hT (fun _ => c)))
    refine pk_lt j l (fun h => absurd h (by omega)) (fun _ => ?_)
    refine pk_eq k i (fun c => ?_) (fun c => other (Or.inl c))
    refine pk_eq l j (fun c2 => ?_) (fun c2 => other (Or.inr c2))
    exact br_t rfl (nm_r (nI_1 l) (ih f (l + 1) (by omega) (by omega) (by omega) (sw_TIs hT (fun z => by omega))))
theorem sw_yt2 {post : Int32 → Prop} {fm fn : Int32} {a b tab ofs : Nat → Int32} {F : Nat → Nat → Nat} {n i j : Nat} (hn : n ≤ 14) (hij : i ≤ j) (hj : j ≤ n)
    (hb : ∀ k l, F k l ≤ 10) (hO : ∀ k l, k ≤ l → l ≤ n → ofs (k * 15 + l) = nI (F k l)) (h0 : ¬ sw_T F i j → post 0) (h1 : sw_T F i j → post 1) :
    ∀ (d f k : Nat), k + d = j + 1 → i ≤ k → d < f → sw_TI F i j k k → wY_isTight_2 post (nI i) (nI j) fm fn a b tab ofs f (nI k) := by
  intro d
  induction d with
  | zero =>
    intro f k hk hik hf hT
    obtain ⟨f, rfl⟩ : ∃ g, f = g + 1 := ⟨f - 1, by omega⟩
    exact pk_lt j k (fun _ => h1 (fun k' l' g1 g2 g3 g4 => hT k' l' g1 g2 g3 (by omega) g4)) (fun h => absurd h (by omega))
  | succ d ih =>
    intro f k hk hik hf hT
    obtain ⟨f, rfl⟩ : ∃ g, f = g + 1 := ⟨f - 1, by omega⟩
    exact pk_lt j k (fun h => absurd h (by omega)) (fun _ => ⟨j + 2, sw_yt10 hn hij hj hik (by omega) hb hO h0 (fun hT' => ih f (k + 1) (by omega) (by omega) (by omega) hT') (j + 1 - k) (j + 2) k (by omega) (by omega) (by omega) hT⟩)
theorem sw_ytight1 {post : Int32 → Prop} {a b tab ofs : Nat → Int32} {m n i j : Nat} (hm : m ≤ 10) (hn : n ≤ 14) (hij : i ≤ j) (hj : j ≤ n)
    (hO : ∀ k l, k ≤ l → l ≤ n → ofs (k * 15 + l) = nI (sw_F a b n m k l))
    (K : post (nI (sw_tN (sw_F a b n m) i j))) : wpY_isTight post (nI m, nI n, a, b, tab, ofs) (nI i) (nI j) := by
  unfold wpY_isTight
  dsimp only
  have ht := sw_tT (sw_F a b n m) (sw_F1 a b n m) (sw_F2 a b n m) i j hij
  refine ⟨j + 2, sw_yt2 (F := sw_F a b n m) hn hij hj (fun k l => Nat.le_trans (sw_Cb a b n 0 m k (l - k)) hm) hO (fun c => ?_) (fun c => ?_) (j + 1 - i) (j + 2) i (by omega) (Nat.le_refl i) (by omega) ?_⟩
  · rw [sw_tN, if_neg (fun z => c (ht.mp z))] at K
    exact K
  · rw [sw_tN, if_pos (ht.mpr c)] at K
    exact K
  · intro k' l' h1 h2 h3 h4 h5
    omega
theorem sw_yt70 {post : Int32 → SY → Prop} {J : Int32 → Int32 → Prop} {a b tab ofs : Nat → Int32} {m n i c : Nat} (hm : m ≤ 10) (hn : n ≤ 14) (hi : i ≤ n)
    (hO : ∀ k l, k ≤ l → l ≤ n → ofs (k * 15 + l) = nI (sw_F a b n m k l))
    (K : J (nI (c + sw_in (sw_tN (sw_F a b n m) i) i (n + 1 - i))) (nI (i + 1))) :
    ∀ (d f j : Nat), i + j + d = n + 1 → d < f → wY_tight_70 post J (nI i) (nI m) (nI n) a b tab ofs f (nI (c + sw_in (sw_tN (sw_F a b n m) i) i j)) (nI (i + j)) := by
  intro d
  induction d with
  | zero =>
    intro f j hj hf
    obtain ⟨f, rfl⟩ : ∃ g, f = g + 1 := ⟨f - 1, by omega⟩
    obtain rfl : j = n + 1 - i := by omega
    exact pk_lt n (i + (n + 1 - i)) (fun _ => nm_r (nI_1 i) K) (fun h => absurd h (by omega))
  | succ d ih =>
    intro f j hj hf
    obtain ⟨f, rfl⟩ : ∃ g, f = g + 1 := ⟨f - 1, by omega⟩
    refine pk_lt n (i + j) (fun h => absurd h (by omega)) (fun _ => ?_)
    refine sw_ytight1 hm hn (by omega) (by omega) hO ?_
    have h := ih f (j + 1) (by omega) (by omega)
    rw [sw_in] at h
    rcases sw_tN01 (sw_F a b n m) i (i + j) with e | e
    · rw [e] at h ⊢
      exact br_t nI_0 (nm_r (nI_1 (i + j)) h)
    · rw [e] at h ⊢
      exact br_f (nI_ne0 (by omega) (by omega)) (nm_r (nI_1 _) (nm_r (nI_1 (i + j)) h))
theorem sw_yt60 {post : Int32 → SY → Prop} {a b tab ofs : Nat → Int32} {m n : Nat} (hm : m ≤ 10) (hn : n ≤ 14)
    (hO : ∀ k l, k ≤ l → l ≤ n → ofs (k * 15 + l) = nI (sw_F a b n m k l))
    (K : post (nI (sw_out (sw_tN (sw_F a b n m)) n (n + 1))) (nI m, nI n, a, b, tab, ofs)) :
    ∀ (d f i : Nat), i + d = n + 1 → d < f → wY_tight_60 post (nI m) (nI n) a b tab ofs f (nI (sw_out (sw_tN (sw_F a b n m)) n i)) (nI i) := by
  intro d
  induction d with
  | zero =>
    intro f i hi hf
    obtain ⟨f, rfl⟩ : ∃ g, f = g + 1 := ⟨f - 1, by omega⟩
    obtain rfl : i = n + 1 := by omega
    exact pk_lt n (n + 1) (fun _ => K) (fun h => absurd h (by omega))
  | succ d ih =>
    intro f i hi hf
    obtain ⟨f, rfl⟩ : ∃ g, f = g + 1 := ⟨f - 1, by omega⟩
    refine pk_lt n i (fun h => absurd h (by omega)) (fun _ => ⟨n + 2, ?_⟩)
    exact sw_yt70 hm hn (by omega) hO (ih f (i + 1) (by omega) (by omega)) (n + 1 - i) (n + 2) 0 (by omega) (by omega)
theorem sw_OFs {F : Nat → Nat → Nat} {n i j : Nat} {ofs : Nat → Int32} {v : Int32} (hn : n ≤ 14) (hij : i ≤ j) (hj : j ≤ n) (H : sw_OF F n ofs i j) (e : v = nI (F i j)) : sw_OF F n (upd ofs (i * 15 + j) v) i (j + 1) := by
  intro k l h1 h2 h3
  by_cases c : k * 15 + l = i * 15 + j
  · obtain ⟨rfl, rfl⟩ : k = i ∧ l = j := ⟨by omega, by omega⟩
    rw [pk_us]
    exact e
  · rw [pk_un c]
    refine H k l h1 h2 ?_
    rcases h3 with h | ⟨rfl, h⟩
    · exact Or.inl h
    · exact Or.inr ⟨rfl, by omega⟩
theorem sw_OFr {F : Nat → Nat → Nat} {n i : Nat} {ofs : Nat → Int32} (H : sw_OF F n ofs i (n + 1)) : sw_OF F n ofs (i + 1) (i + 1) := by
  intro k l h1 h2 h3
  exact H k l h1 h2 (by omega)
theorem sw_yt12 {post : Int32 → SY → Prop} {J : Int32 → Int32 → Int32 → (Nat → Int32) → (Nat → Int32) → (Nat → Int32) → (Nat → Int32) → Prop} {a b : Nat → Int32} {m n i : Nat} (hm : m ≤ 10) (hn : n ≤ 14) (hi : i ≤ n)
    (K : ∀ tab ofs, sw_OF (sw_F a b n m) n ofs (i + 1) (i + 1) → J (nI (i + 1)) (nI m) (nI n) a b tab ofs) :
    ∀ (d f j : Nat) (tab ofs : Nat → Int32), j + d = n + 1 → i ≤ j → d < f → sw_OF (sw_F a b n m) n ofs i j → wY_tight_12 post J (nI i) f (nI j) (nI m) (nI n) a b tab ofs := by
  intro d
  induction d with
  | zero =>
    intro f j tab ofs hj hij hf hO
    obtain ⟨f, rfl⟩ : ∃ g, f = g + 1 := ⟨f - 1, by omega⟩
    obtain rfl : j = n + 1 := by omega
    exact pk_lt n (n + 1) (fun _ => nm_r (nI_1 i) (K tab ofs (sw_OFr hO))) (fun h => absurd h (by omega))
  | succ d ih =>
    intro f j tab ofs hj hij hf hO
    obtain ⟨f, rfl⟩ : ∃ g, f = g + 1 := ⟨f - 1, by omega⟩
    refine pk_lt n j (fun h => absurd h (by omega)) (fun _ => ?_)
    rw [pk_sub hij, sw_ix, nI_clamp (show i * 15 + j < 2 ^ 31 by omega)]
    refine sw_ycommon 0 m i (j - i) hn (by omega) (by omega) (by omega) (fun tab' => ?_)
    exact ⟨vp_in_nI (by omega) (by omega), nm_e (nm_r (nI_1 j) (ih f (j + 1) tab' _ (by omega) (by omega) (by omega) (sw_OFs hn hij (by omega) hO rfl)))⟩
theorem sw_yt2f {post : Int32 → SY → Prop} {a b : Nat → Int32} {m n : Nat} (hm : m ≤ 10) (hn : n ≤ 14)
    (K : ∀ tab ofs, post (nI (sw_out (sw_tN (sw_F a b n m)) n (n + 1))) (nI m, nI n, a, b, tab, ofs)) :
    ∀ (d f i : Nat) (tab ofs : Nat → Int32), i + d = n + 1 → d < f → sw_OF (sw_F a b n m) n ofs i i → wY_tight_2 post f (nI i) (nI m) (nI n) a b tab ofs := by
  intro d
  induction d with
  | zero =>
    intro f i tab ofs hi hf hO
    obtain ⟨f, rfl⟩ : ∃ g, f = g + 1 := ⟨f - 1, by omega⟩
    exact pk_lt n i (fun _ => ⟨n + 2, sw_yt60 hm hn (fun k l h1 h2 => hO k l h1 h2 (by omega)) (K tab ofs) (n + 1) (n + 2) 0 (by omega) (by omega)⟩) (fun h => absurd h (by omega))
  | succ d ih =>
    intro f i tab ofs hi hf hO
    obtain ⟨f, rfl⟩ : ∃ g, f = g + 1 := ⟨f - 1, by omega⟩
    exact pk_lt n i (fun h => absurd h (by omega)) (fun _ => ⟨n + 2, sw_yt12 hm hn (by omega) (fun tab' ofs' hO' => ih f (i + 1) tab' ofs' (by omega) (by omega) hO') (n + 1 - i) (n + 2) i tab ofs (by omega) (by omega) (by omega) hO⟩)
theorem sw_ytight {post : Int32 → SY → Prop} {a b tab ofs : Nat → Int32} {m n : Nat} (hm : m ≤ 10) (hn : n ≤ 14)
    (K : ∀ tab' ofs', post (nI (sw_out (sw_tN (sw_F a b n m)) n (n + 1))) (nI m, nI n, a, b, tab', ofs')) : wpY_tight post (nI m, nI n, a, b, tab, ofs) := by
  unfold wpY_tight
  dsimp only
  exact ⟨n + 2, sw_yt2f hm hn K (n + 1) (n + 2) 0 tab ofs (by omega) (by omega) (fun k l h1 h2 h3 => by omega)⟩
