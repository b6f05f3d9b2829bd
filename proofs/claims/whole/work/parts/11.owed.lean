/-! what is owed, method by method -/
theorem i_up {k : Nat} {u : SX} {v : SY} (h : i_Rel k u v) : i_Rel (k + 3) u v := h
theorem i_vc0 : wpX_init (fun u => wpY_init (fun v => i_Rel 0 u v)) := sw_rel (k := 0) (m := 0) (n := 0) (by omega) (by omega)
theorem i_vc_growA {k : Nat} {u : SX} {v : SY} (I : i_Rel k u v) (hk : k + 3 ≤ 1536) (v1 : Int32) : wpX_growA (fun r u' => wpY_growA (fun r' v' => r' = r ∧ i_Rel (k + 3) u' v') v v1) u v1 := by
  obtain ⟨m, n, a, b, row, tab, ofs, hm, hn, rfl, rfl⟩ := I
  unfold wpX_growA
  dsimp only
  by_cases hL : sw_Let v1
  · refine sw_xlt hL (br_f (by decide) ?_)
    refine pk_lt m 10 (fun c => ⟨vp_in_nI c (by omega), nm_r (e' := upd a m v1) (by rw [nI_clamp (by omega)]) (nm_r (nI_1 m) ?_)⟩) (fun c => ?_)
    · unfold wpY_growA
      dsimp only
      refine sw_ylt hL (br_f (by decide) ?_)
      exact pk_eq m 10 (fun e => absurd e (by omega)) (fun _ => ⟨vp_in_nI c (by omega), nm_r (e' := upd a m v1) (by rw [nI_clamp (by omega)]) (nm_r (nI_1 m) ⟨rfl, sw_rel (by omega) hn⟩)⟩)
    · unfold wpY_growA
      dsimp only
      refine sw_ylt hL (br_f (by decide) ?_)
      exact pk_eq m 10 (fun _ => ⟨rfl, sw_rel hm hn⟩) (fun e => absurd (show m = 10 by omega) e)
  · refine sw_xln hL (br_t rfl ?_)
    unfold wpY_growA
    dsimp only
    exact sw_yln hL (br_t rfl ⟨rfl, sw_rel hm hn⟩)
theorem i_vc_growB {k : Nat} {u : SX} {v : SY} (I : i_Rel k u v) (hk : k + 3 ≤ 1536) (v1 : Int32) : wpX_growB (fun r u' => wpY_growB (fun r' v' => r' = r ∧ i_Rel (k + 3) u' v') v v1) u v1 := by
  obtain ⟨m, n, a, b, row, tab, ofs, hm, hn, rfl, rfl⟩ := I
  unfold wpX_growB
  dsimp only
  by_cases hL : sw_Let v1
  · refine sw_xlt hL (br_f (by decide) ?_)
    refine pk_lt n 14 (fun c => ⟨vp_in_nI c (by omega), nm_r (e' := upd b n v1) (by rw [nI_clamp (by omega)]) (nm_r (nI_1 n) ?_)⟩) (fun c => ?_)
    · unfold wpY_growB
      dsimp only
      refine sw_ylt hL (br_f (by decide) ?_)
      exact pk_eq n 14 (fun e => absurd e (by omega)) (fun _ => ⟨vp_in_nI c (by omega), nm_r (e' := upd b n v1) (by rw [nI_clamp (by omega)]) (nm_r (nI_1 n) ⟨rfl, sw_rel hm (by omega)⟩)⟩)
    · unfold wpY_growB
      dsimp only
      refine sw_ylt hL (br_f (by decide) ?_)
      exact pk_eq n 14 (fun _ => ⟨rfl, sw_rel hm hn⟩) (fun e => absurd (show n = 14 by omega) e)
  · refine sw_xln hL (br_t rfl ?_)
    unfold wpY_growB
    dsimp only
    exact sw_yln hL (br_t rfl ⟨rfl, sw_rel hm hn⟩)
theorem i_vc_putA {k : Nat} {u : SX} {v : SY} (I : i_Rel k u v) (hk : k + 3 ≤ 1536) (v1 : Int32) (v2 : Int32) : wpX_putA (fun r u' => wpY_putA (fun r' v' => r' = r ∧ i_Rel (k + 3) u' v') v v1 v2) u v1 v2 := by
  obtain ⟨m, n, a, b, row, tab, ofs, hm, hn, rfl, rfl⟩ := I
  unfold wpX_putA
  dsimp only
  unfold wpY_putA
  dsimp only
  rcases pk_ix v1 (n := m) (by omega) with c | c | ⟨j, hj, rfl⟩
  · exact br_t c (br_t c ⟨rfl, sw_rel hm hn⟩)
  · have c0 : ¬ v1 < 0 := by
      rw [Int32.lt_iff_toInt_lt]
      rw [Int32.le_iff_toInt_le, nI_toInt (by omega)] at c
      have h0 : (0 : Int32).toInt = 0 := by decide
      omega
    exact br_f c0 (br_t c (br_f c0 (br_t c ⟨rfl, sw_rel hm hn⟩)))
  · have c0 : ¬ nI j < 0 := nI_pos (by omega)
    have c1 : ¬ nI m ≤ nI j := nI_ge hj (by omega)
    have hv : vp_in (nI j) 10 := vp_in_nI (by omega) (by omega)
    by_cases hL : sw_Let v2
    · exact br_f c0 (br_f c1 (sw_xlt hL (br_f (by decide) ⟨hv, nm_e ⟨hv, nm_e (br_f c0 (br_f c1 (sw_ylt hL (br_f (by decide) ⟨hv, nm_e ⟨hv, nm_e ⟨rfl, sw_rel hm hn⟩⟩⟩))))⟩⟩)))
    · exact br_f c0 (br_f c1 (sw_xln hL (br_t rfl (br_f c0 (br_f c1 (sw_yln hL (br_t rfl ⟨rfl, sw_rel hm hn⟩)))))))
theorem i_vc_shiftB {k : Nat} {u : SX} {v : SY} (I : i_Rel k u v) (hk : k + 3 ≤ 1536) : wpX_shiftB (fun r u' => wpY_shiftB (fun r' v' => r' = r ∧ i_Rel (k + 3) u' v') v) u := by
  obtain ⟨m, n, a, b, row, tab, ofs, hm, hn, rfl, rfl⟩ := I
  unfold wpX_shiftB
  dsimp only
  unfold wpY_shiftB
  dsimp only
  cases n with
  | zero => exact br_t nI_0 (br_t nI_0 ⟨rfl, sw_rel hm hn⟩)
  | succ n =>
    have c : ¬ nI (n + 1) = 0 := nI_ne0 (by omega) (by omega)
    exact br_f c (nm_e ⟨n + 1, sw_xsh (b := b) hn (br_f c (nm_e ⟨n + 1, sw_ysh (b := b) hn ⟨rfl, sw_rel hm (by omega)⟩ n (n + 1) 0 (by omega) (by omega)⟩)) n (n + 1) 0 (by omega) (by omega)⟩)
theorem i_vc_clear {k : Nat} {u : SX} {v : SY} (I : i_Rel k u v) (hk : k + 3 ≤ 1536) : wpX_clear (fun u' => wpY_clear (fun v' => i_Rel (k + 3) u' v') v) u := by
  obtain ⟨m, n, a, b, row, tab, ofs, hm, hn, rfl, rfl⟩ := I
  exact sw_rel (k := k + 3) (m := 0) (n := 0) (by omega) (by omega)
theorem i_vc_lengths {k : Nat} {u : SX} {v : SY} (I : i_Rel k u v) (hk : k + 3 ≤ 1536) : wpX_lengths (fun r => wpY_lengths (fun r' => r' = r ∧ i_Rel (k + 3) u v) v) u := by
  obtain ⟨m, n, a, b, row, tab, ofs, hm, hn, rfl, rfl⟩ := I
  exact ⟨rfl, sw_rel hm hn⟩
theorem i_vc_commonB {k : Nat} {u : SX} {v : SY} (I : i_Rel k u v) (hk : k + 3 ≤ 1536) (v1 : Int32) (v2 : Int32) : wpX_commonB (fun r u' => wpY_commonB (fun r' v' => r' = r ∧ i_Rel (k + 3) u' v') v v1 v2) u v1 v2 := by
  obtain ⟨m, n, a, b, row, tab, ofs, hm, hn, rfl, rfl⟩ := I
  unfold wpX_commonB
  dsimp only
  unfold wpY_commonB
  dsimp only
  by_cases hS : sw_St v1 v2 n
  · obtain ⟨i, j, hij, hj, rfl, rfl⟩ := hS
    refine sw_xst1 (by omega) hij hj (br_f (by decide) ?_)
    refine sw_xcommon 0 m i (j - i) hn (by omega) (by omega) (by omega) (by omega) (by omega) (fun row' => ?_)
    refine sw_yst1 (by omega) hij hj (br_f (by decide) ?_)
    rw [pk_sub hij]
    exact sw_ycommon 0 m i (j - i) hn (by omega) (by omega) (by omega) (fun tab' => ⟨rfl, sw_rel hm hn⟩)
  · exact sw_xst0 (by omega) hS (br_t rfl (sw_yst0 (by omega) hS (br_t rfl ⟨rfl, sw_rel hm hn⟩)))
theorem i_vc_commonA {k : Nat} {u : SX} {v : SY} (I : i_Rel k u v) (hk : k + 3 ≤ 1536) (v1 : Int32) (v2 : Int32) : wpX_commonA (fun r u' => wpY_commonA (fun r' v' => r' = r ∧ i_Rel (k + 3) u' v') v v1 v2) u v1 v2 := by
  obtain ⟨m, n, a, b, row, tab, ofs, hm, hn, rfl, rfl⟩ := I
  unfold wpX_commonA
  dsimp only
  unfold wpY_commonA
  dsimp only
  by_cases hS : sw_St v1 v2 m
  · obtain ⟨i, j, hij, hj, rfl, rfl⟩ := hS
    refine sw_xst1 (by omega) hij hj (br_f (by decide) ?_)
    refine sw_xcommon i (j - i) 0 n hn (Nat.le_refl n) (by omega) (by omega) (by omega) (by omega) (fun row' => ?_)
    refine sw_yst1 (by omega) hij hj (br_f (by decide) ?_)
    rw [pk_sub hij]
    exact sw_ycommon i (j - i) 0 n hn (Nat.le_refl n) (by omega) (by omega) (fun tab' => ⟨rfl, sw_rel hm hn⟩)
  · exact sw_xst0 (by omega) hS (br_t rfl (sw_yst0 (by omega) hS (br_t rfl ⟨rfl, sw_rel hm hn⟩)))
theorem i_vc_commonEnd {k : Nat} {u : SX} {v : SY} (I : i_Rel k u v) (hk : k + 3 ≤ 1536) (v1 : Int32) (v2 : Int32) : wpX_commonEnd (fun r u' => wpY_commonEnd (fun r' v' => r' = r ∧ i_Rel (k + 3) u' v') v v1 v2) u v1 v2 := by
  obtain ⟨m, n, a, b, row, tab, ofs, hm, hn, rfl, rfl⟩ := I
  unfold wpX_commonEnd
  dsimp only
  unfold wpY_commonEnd
  dsimp only
  by_cases c1 : v1 < 0
  · exact br_t c1 (br_t c1 ⟨rfl, sw_rel hm hn⟩)
  · by_cases c2 : nI m < v1
    · exact br_f c1 (br_t c2 (br_f c1 (br_t c2 ⟨rfl, sw_rel hm hn⟩)))
    · by_cases c3 : v2 < 0
      · exact br_f c1 (br_f c2 (br_t c3 (br_f c1 (br_f c2 (br_t c3 ⟨rfl, sw_rel hm hn⟩)))))
      · by_cases c4 : v2 ≤ nI n
        · obtain ⟨i, hi, rfl⟩ := nI_of c1
          obtain ⟨j, hj, rfl⟩ := nI_of c3
          have d2 := c2
          have d4 := c4
          rw [nI_ltI (by omega) hi] at d2
          rw [nI_leI hj (by omega)] at d4
          rw [pk_sub (show i ≤ m by omega)]
          refine br_f c1 (br_f c2 (br_f c3 (br_t c4 ?_)))
          refine sw_xcommon (m - i) i 0 j hn (by omega) (by omega) (by omega) (by omega) (by omega) (fun row' => ?_)
          refine br_f c1 (br_f c2 (br_f c3 (br_t c4 ?_)))
          exact sw_ycommon (m - i) i 0 j hn (by omega) (by omega) (by omega) (fun tab' => ⟨rfl, sw_rel hm hn⟩)
        · exact br_f c1 (br_f c2 (br_f c3 (br_f c4 (br_f c1 (br_f c2 (br_f c3 (br_f c4 ⟨rfl, sw_rel hm hn⟩)))))))
theorem i_vc_commonBegin {k : Nat} {u : SX} {v : SY} (I : i_Rel k u v) (hk : k + 3 ≤ 1536) (v1 : Int32) (v2 : Int32) : wpX_commonBegin (fun r u' => wpY_commonBegin (fun r' v' => r' = r ∧ i_Rel (k + 3) u' v') v v1 v2) u v1 v2 := by
  obtain ⟨m, n, a, b, row, tab, ofs, hm, hn, rfl, rfl⟩ := I
  unfold wpX_commonBegin
  dsimp only
  unfold wpY_commonBegin
  dsimp only
  by_cases c1 : v1 < 0
  · exact br_t c1 (br_t c1 ⟨rfl, sw_rel hm hn⟩)
  · by_cases c2 : nI m < v1
    · exact br_f c1 (br_t c2 (br_f c1 (br_t c2 ⟨rfl, sw_rel hm hn⟩)))
    · by_cases c3 : v2 < 0
      · exact br_f c1 (br_f c2 (br_t c3 (br_f c1 (br_f c2 (br_t c3 ⟨rfl, sw_rel hm hn⟩)))))
      · by_cases c4 : v2 ≤ nI n
        · obtain ⟨i, hi, rfl⟩ := nI_of c1
          obtain ⟨j, hj, rfl⟩ := nI_of c3
          have d2 := c2
          have d4 := c4
          rw [nI_ltI (by omega) hi] at d2
          rw [nI_leI hj (by omega)] at d4
          rw [pk_sub (show j ≤ n by omega)]
          refine br_f c1 (br_f c2 (br_f c3 (br_t c4 ?_)))
          refine sw_xcommon 0 i (n - j) j hn (by omega) (by omega) (by omega) (by omega) (by omega) (fun row' => ?_)
          refine br_f c1 (br_f c2 (br_f c3 (br_t c4 ?_)))
          exact sw_ycommon 0 i (n - j) j hn (by omega) (by omega) (by omega) (fun tab' => ⟨rfl, sw_rel hm hn⟩)
        · exact br_f c1 (br_f c2 (br_f c3 (br_f c4 (br_f c1 (br_f c2 (br_f c3 (br_f c4 ⟨rfl, sw_rel hm hn⟩)))))))
theorem i_vc_changesB {k : Nat} {u : SX} {v : SY} (I : i_Rel k u v) (hk : k + 3 ≤ 1536) (v1 : Int32) (v2 : Int32) : wpX_changesB (fun r u' => wpY_changesB (fun r' v' => r' = r ∧ i_Rel (k + 3) u' v') v v1 v2) u v1 v2 := by
  obtain ⟨m, n, a, b, row, tab, ofs, hm, hn, rfl, rfl⟩ := I
  unfold wpX_changesB
  dsimp only
  unfold wpY_changesB
  dsimp only
  by_cases hS : sw_St v1 v2 n
  · obtain ⟨i, j, hij, hj, rfl, rfl⟩ := hS
    refine sw_xst1 (by omega) hij hj (br_f (by decide) ?_)
    refine sw_xchanges 0 m i (j - i) hn (by omega) (by omega) (by omega) (by omega) (fun row' => ?_)
    refine sw_yst1 (by omega) hij hj (br_f (by decide) ?_)
    rw [pk_sub hij]
    exact sw_ychanges 0 m i (j - i) (by omega) (by omega) (fun tab' => ⟨rfl, sw_rel hm hn⟩)
  · exact sw_xst0 (by omega) hS (br_t rfl (sw_yst0 (by omega) hS (br_t rfl ⟨rfl, sw_rel hm hn⟩)))
theorem i_vc_changesA {k : Nat} {u : SX} {v : SY} (I : i_Rel k u v) (hk : k + 3 ≤ 1536) (v1 : Int32) (v2 : Int32) : wpX_changesA (fun r u' => wpY_changesA (fun r' v' => r' = r ∧ i_Rel (k + 3) u' v') v v1 v2) u v1 v2 := by
  obtain ⟨m, n, a, b, row, tab, ofs, hm, hn, rfl, rfl⟩ := I
  unfold wpX_changesA
  dsimp only
  unfold wpY_changesA
  dsimp only
  by_cases hS : sw_St v1 v2 m
  · obtain ⟨i, j, hij, hj, rfl, rfl⟩ := hS
    refine sw_xst1 (by omega) hij hj (br_f (by decide) ?_)
    refine sw_xchanges i (j - i) 0 n hn (by omega) (by omega) (by omega) (by omega) (fun row' => ?_)
    refine sw_yst1 (by omega) hij hj (br_f (by decide) ?_)
    rw [pk_sub hij]
    exact sw_ychanges i (j - i) 0 n (by omega) (by omega) (fun tab' => ⟨rfl, sw_rel hm hn⟩)
  · exact sw_xst0 (by omega) hS (br_t rfl (sw_yst0 (by omega) hS (br_t rfl ⟨rfl, sw_rel hm hn⟩)))
theorem i_vc_nearest {k : Nat} {u : SX} {v : SY} (I : i_Rel k u v) (hk : k + 3 ≤ 1536) : wpX_nearest (fun r u' => wpY_nearest (fun r' v' => r' = r ∧ i_Rel (k + 3) u' v') v) u := by
  obtain ⟨m, n, a, b, row, tab, ofs, hm, hn, rfl, rfl⟩ := I
  obtain ⟨p, q, hF⟩ := sw_first (sw_H a b m) n
  exact sw_xnearest hm hn hF (fun row' => sw_ynearest hm hn hF (fun tab' => ⟨rfl, sw_rel hm hn⟩))
theorem i_vc_nearestAt {k : Nat} {u : SX} {v : SY} (I : i_Rel k u v) (hk : k + 3 ≤ 1536) : wpX_nearestAt (fun r u' => wpY_nearestAt (fun r' v' => r' = r ∧ i_Rel (k + 3) u' v') v) u := by
  obtain ⟨m, n, a, b, row, tab, ofs, hm, hn, rfl, rfl⟩ := I
  obtain ⟨p, q, hF⟩ := sw_first (sw_H a b m) n
  exact sw_xnearestAt hm hn hF (fun row' => sw_ynearestAt hm hn hF (fun tab' => ⟨rfl, sw_rel hm hn⟩))
theorem i_vc_shortest {k : Nat} {u : SX} {v : SY} (I : i_Rel k u v) (hk : k + 3 ≤ 1536) (v1 : Int32) : wpX_shortest (fun r u' => wpY_shortest (fun r' v' => r' = r ∧ i_Rel (k + 3) u' v') v v1) u v1 := by
  obtain ⟨m, n, a, b, row, tab, ofs, hm, hn, rfl, rfl⟩ := I
  exact sw_xshortest hm hn (fun row' => sw_yshortest hm hn (fun tab' => ⟨rfl, sw_rel hm hn⟩))
theorem i_vc_widest {k : Nat} {u : SX} {v : SY} (I : i_Rel k u v) (hk : k + 3 ≤ 1536) (v1 : Int32) : wpX_widest (fun r u' => wpY_widest (fun r' v' => r' = r ∧ i_Rel (k + 3) u' v') v v1) u v1 := by
  obtain ⟨m, n, a, b, row, tab, ofs, hm, hn, rfl, rfl⟩ := I
  unfold wpX_widest
  dsimp only
  by_cases c1 : v1 < 0
  · refine br_t c1 ?_
    unfold wpY_widest
    dsimp only
    exact br_t c1 ⟨rfl, sw_rel hm hn⟩
  · by_cases c2 : v1 ≤ nI n
    · obtain ⟨w, hw, rfl⟩ := nI_of c1
      have d2 := c2
      rw [nI_leI hw (by omega)] at d2
      exact br_f c1 (br_t c2 (sw_xgreatest w hm hn d2 (fun row' => sw_ywidest w hm hn d2 (fun tab' => ⟨rfl, sw_rel hm hn⟩))))
    · refine br_f c1 (br_f c2 ?_)
      unfold wpY_widest
      dsimp only
      exact br_f c1 (br_f c2 ⟨rfl, sw_rel hm hn⟩)
theorem i_vc_rotated {k : Nat} {u : SX} {v : SY} (I : i_Rel k u v) (hk : k + 3 ≤ 1536) : wpX_rotated (fun r u' => wpY_rotated (fun r' v' => r' = r ∧ i_Rel (k + 3) u' v') v) u := by
  obtain ⟨m, n, a, b, row, tab, ofs, hm, hn, rfl, rfl⟩ := I
  exact sw_xrotated hm hn (fun row' => sw_yrotated hm hn (fun tab' => ⟨rfl, sw_rel hm hn⟩))
theorem i_vc_tight {k : Nat} {u : SX} {v : SY} (I : i_Rel k u v) (hk : k + 3 ≤ 1536) : wpX_tight (fun r u' => wpY_tight (fun r' v' => r' = r ∧ i_Rel (k + 3) u' v') v) u := by
  obtain ⟨m, n, a, b, row, tab, ofs, hm, hn, rfl, rfl⟩ := I
  exact sw_xtight hm hn (fun row' => sw_ytight hm hn (fun tab' ofs' => ⟨rfl, sw_rel hm hn⟩))
