/-! what is owed -/
/-- the same states and sharings on both sides; the component's words are the reference's where the page is present, zeros where it is absent; no more different pages than frames -/
def i_Rel (_ : Nat) (u : SX) (v : SY) : Prop := u.1 = v.1 ∧ u.2.2 = v.2.2 ∧ sr_R u.1 u.2.2 u.2.1 v.2.1
theorem i_up {k : Nat} {u : SX} {v : SY} (h : i_Rel k u v) : i_Rel (k + 5) u v := h
theorem sr_rel {k : Nat} {st jo wx wy : Nat → Int32} (h : sr_R st jo wx wy) : i_Rel k (st, wx, jo) (st, wy, jo) := ⟨rfl, rfl, h⟩
theorem sr_open {k : Nat} {u : SX} {v : SY} (I : i_Rel k u v) : ∃ st jo wx wy : Nat → Int32, u = (st, wx, jo) ∧ v = (st, wy, jo) ∧ sr_R st jo wx wy := by
  obtain ⟨st, wx, jo⟩ := u
  obtain ⟨st2, wy, jo2⟩ := v
  obtain ⟨e1, e2, h⟩ := I
  have e1' : st = st2 := e1
  have e2' : jo = jo2 := e2
  subst e1' e2'
  exact ⟨st, jo, wx, wy, rfl, rfl, h⟩
theorem i_vc0 : wpX_init (fun u => wpY_init (fun v => i_Rel 0 u v)) := sr_rel (k := 0) sr_init
theorem i_vc_touch {k : Nat} {u : SX} {v : SY} (I : i_Rel k u v) (hk : k + 5 ≤ 2560) (v1 : Int32) (v2 : Int32) : wpX_touch (fun r u' => wpY_touch (fun r' v' => r' = r ∧ i_Rel (k + 5) u' v') v v1 v2) u v1 v2 := by
  obtain ⟨st, jo, wx, wy, rfl, rfl, h⟩ := sr_open I
  unfold wpX_touch wpX_pageIndex
  dsimp only
  rcases sr_cpg v1 v2 with b | ⟨i, j, hi, hj, rfl, rfl⟩
  · refine sr_xpg0 b ?_
    refine br_t rfl ?_
    exact sr_ytob b ⟨rfl, sr_rel h⟩
  · rw [sr_ix, nI_clamp (n := 16 * i + j) (by omega)]
    refine sr_xpg1 hi hj ?_
    refine br_f sr_10 ?_
    refine sr_xps hi hj (fun z => ?_) (fun z => ?_)
    · refine br_t rfl ?_
      refine sr_xuse ?_
      rcases sr_full h.2.1 h.2.2.1 with ⟨f1, f2⟩ | ⟨f1, f2, f3⟩
      · refine br_f f2 ?_
        exact sr_ytof hi hj z f1 ⟨rfl, sr_rel h⟩
      · refine br_t f2 ⟨vp_in_nI (by omega) (by decide), nm_e ?_⟩
        exact sr_yton hi hj z f1 ⟨rfl, sr_rel (sr_come h hi hj z f3)⟩
    · refine br_f sr_10 ?_
      exact sr_ytop hi hj z ⟨rfl, sr_rel h⟩
theorem i_vc_write {k : Nat} {u : SX} {v : SY} (I : i_Rel k u v) (hk : k + 5 ≤ 2560) (v1 : Int32) (v2 : Int32) (v3 : Int32) (v4 : Int32) : wpX_write (fun r u' => wpY_write (fun r' v' => r' = r ∧ i_Rel (k + 5) u' v') v v1 v2 v3 v4) u v1 v2 v3 v4 := by
  obtain ⟨st, jo, wx, wy, rfl, rfl, h⟩ := sr_open I
  rcases sr_cpg v1 v2 with b | ⟨i, j, hi, hj, rfl, rfl⟩
  · unfold wpX_write
    dsimp only
    refine sr_xpg0 b ?_
    refine br_t rfl ?_
    unfold wpY_write
    dsimp only
    refine sr_ypg0 b ?_
    exact br_t rfl ⟨rfl, sr_rel h⟩
  · rcases sr_cw v3 with b | ⟨w, hw, rfl⟩
    · unfold wpX_write
      dsimp only
      refine sr_xpg1 hi hj ?_
      refine br_f sr_10 ?_
      refine sr_xwo0 b ?_
      refine br_t rfl ?_
      unfold wpY_write
      dsimp only
      refine sr_ypg1 hi hj ?_
      refine br_f sr_10 ?_
      by_cases c : v3 < 0
      · exact br_t c ⟨rfl, sr_rel h⟩
      · exact br_f c (br_f (sr_ngt (n := 3) (by decide) (b.resolve_left c) c) ⟨rfl, sr_rel h⟩)
    · obtain ⟨r, st', jo', wy', hX, hY, hR, hr⟩ := sr_own h hi hj
      refine sr_xw hi hj hw hX (fun z => ?_) (fun z => ?_)
      · have hn : ¬ st' (16 * i + j) = 0 := by
          rcases hr with a | a
          · exact absurd z a
          · exact a.2.1
        exact sr_yw hi hj hw hY (fun _ => ⟨rfl, sr_rel (sr_word hR hw hn)⟩) (fun n => absurd z n)
      · exact sr_yw hi hj hw hY (fun n => absurd n z) (fun _ => ⟨rfl, sr_rel hR⟩)
theorem i_vc_read {k : Nat} {u : SX} {v : SY} (I : i_Rel k u v) (hk : k + 5 ≤ 2560) (v1 : Int32) (v2 : Int32) (v3 : Int32) : wpX_read (fun r => wpY_read (fun r' => r' = r ∧ i_Rel (k + 5) u v) v v1 v2 v3) u v1 v2 v3 := by
  obtain ⟨st, jo, wx, wy, rfl, rfl, h⟩ := sr_open I
  rcases sr_cpg v1 v2 with b | ⟨i, j, hi, hj, rfl, rfl⟩
  · unfold wpX_read
    dsimp only
    refine sr_xpg0 b ?_
    refine br_t rfl ?_
    unfold wpY_read
    dsimp only
    refine sr_ypg0 b ?_
    exact br_t rfl ⟨rfl, sr_rel h⟩
  · rcases sr_cw v3 with b | ⟨w, hw, rfl⟩
    · unfold wpX_read
      dsimp only
      refine sr_xpg1 hi hj ?_
      refine br_f sr_10 ?_
      refine sr_xwo0 b ?_
      refine br_t rfl ?_
      unfold wpY_read
      dsimp only
      refine sr_ypg1 hi hj ?_
      refine br_f sr_10 ?_
      by_cases c : v3 < 0
      · exact br_t c ⟨rfl, sr_rel h⟩
      · exact br_f c (br_t (sr_gt (n := 3) (by decide) (b.resolve_left c) c) ⟨rfl, sr_rel h⟩)
    · refine sr_xread hi hj hw ?_
      exact sr_yread h hi hj hw ⟨rfl, sr_rel h⟩
theorem i_vc_unmap {k : Nat} {u : SX} {v : SY} (I : i_Rel k u v) (hk : k + 5 ≤ 2560) (v1 : Int32) (v2 : Int32) : wpX_unmap (fun r u' => wpY_unmap (fun r' v' => r' = r ∧ i_Rel (k + 5) u' v') v v1 v2) u v1 v2 := by
  obtain ⟨st, jo, wx, wy, rfl, rfl, h⟩ := sr_open I
  rcases sr_cpg v1 v2 with b | ⟨i, j, hi, hj, rfl, rfl⟩
  · unfold wpX_unmap
    dsimp only
    refine sr_xpg0 b ?_
    refine br_t rfl ?_
    unfold wpY_unmap
    dsimp only
    refine sr_ypg0 b ?_
    exact br_t rfl ⟨rfl, sr_rel h⟩
  · refine sr_xun hi hj (fun z => ?_) (fun z => ?_)
    · exact sr_yun hi hj (fun _ => ⟨rfl, sr_rel h⟩) (fun n => absurd z n)
    · exact sr_yun hi hj (fun n => absurd n z) (fun _ => ⟨rfl, sr_rel (sr_gone h hi hj)⟩)
theorem i_vc_protect {k : Nat} {u : SX} {v : SY} (I : i_Rel k u v) (hk : k + 5 ≤ 2560) (v1 : Int32) (v2 : Int32) (v3 : Int32) : wpX_protect (fun r u' => wpY_protect (fun r' v' => r' = r ∧ i_Rel (k + 5) u' v') v v1 v2 v3) u v1 v2 v3 := by
  obtain ⟨st, jo, wx, wy, rfl, rfl, h⟩ := sr_open I
  unfold wpX_protect wpX_pageIndex wX_protect_53
  dsimp only
  rcases sr_cpg v1 v2 with b | ⟨i, j, hi, hj, rfl, rfl⟩
  · refine sr_xpg0 b ?_
    refine br_t rfl ?_
    unfold wpY_protect
    dsimp only
    refine sr_ypg0 b ?_
    exact br_t rfl ⟨rfl, sr_rel h⟩
  · have hy : ∀ (x r : Int32) (hx : x = 1 ∨ x = 2) (hv : (v3 = 0 ∧ x = 1) ∨ (¬ v3 = 0 ∧ x = 2)) (hz : ¬ st (16 * i + j) = 0) (hr : st (16 * i + j) - 1 = r), wpY_protect (fun r' v' => r' = r ∧ i_Rel (k + 5) (upd st (16 * i + j) x, wx, jo) v') (st, wy, jo) (nI i) (nI j) v3 := by
      intro x r hx hv hz hr
      unfold wpY_protect
      dsimp only
      refine sr_ypg1 hi hj ?_
      refine br_f sr_10 ⟨pk_in (16 * i + j) 32 (by omega) (sr_iy i j), ?_⟩
      rw [sr_iy, nI_clamp (n := 16 * i + j) (by omega)]
      refine nm_e (br_f hz ?_)
      rcases hv with ⟨c, e⟩ | ⟨c, e⟩
      · subst e
        exact br_t c ⟨vp_in_nI (by omega) (by decide), nm_e ⟨hr, sr_rel (sr_mark h (by omega) hz hx)⟩⟩
      · subst e
        exact br_f c ⟨vp_in_nI (by omega) (by decide), nm_e ⟨hr, sr_rel (sr_mark h (by omega) hz hx)⟩⟩
    rw [sr_ix, nI_clamp (n := 16 * i + j) (by omega)]
    refine sr_xpg1 hi hj ?_
    refine br_f sr_10 ?_
    refine sr_xps hi hj (fun z => ?_) (fun z => ?_)
    · refine br_t rfl ?_
      unfold wpY_protect
      dsimp only
      refine sr_ypg1 hi hj ?_
      refine br_f sr_10 ⟨pk_in (16 * i + j) 32 (by omega) (sr_iy i j), ?_⟩
      rw [sr_iy, nI_clamp (n := 16 * i + j) (by omega)]
      exact nm_e (br_t z ⟨rfl, sr_rel h⟩)
    · have h12 : st (16 * i + j) = 1 ∨ st (16 * i + j) = 2 := (h.1 (16 * i + j) (by omega)).resolve_left z
      refine br_f sr_10 ⟨vp_in_nI (by omega) (by decide), nm_e (br_c (fun c => ⟨vp_in_nI (by omega) (by decide), nm_e (br_c (fun e => ?_) (fun e => ?_))⟩) (fun c => ⟨vp_in_nI (by omega) (by decide), nm_e (br_c (fun e => ?_) (fun e => ?_))⟩))⟩
      · exact hy 1 1 (Or.inl rfl) (Or.inl ⟨c, rfl⟩) z (by rw [e]; rfl)
      · exact hy 1 0 (Or.inl rfl) (Or.inl ⟨c, rfl⟩) z (by rw [h12.resolve_right e]; rfl)
      · exact hy 2 1 (Or.inr rfl) (Or.inr ⟨c, rfl⟩) z (by rw [e]; rfl)
      · exact hy 2 0 (Or.inr rfl) (Or.inr ⟨c, rfl⟩) z (by rw [h12.resolve_right e]; rfl)
theorem i_vc_state {k : Nat} {u : SX} {v : SY} (I : i_Rel k u v) (hk : k + 5 ≤ 2560) (v1 : Int32) (v2 : Int32) : wpX_state (fun r => wpY_state (fun r' => r' = r ∧ i_Rel (k + 5) u v) v v1 v2) u v1 v2 := by
  obtain ⟨st, jo, wx, wy, rfl, rfl, h⟩ := sr_open I
  unfold wpX_state wpX_pageIndex
  dsimp only
  rcases sr_cpg v1 v2 with b | ⟨i, j, hi, hj, rfl, rfl⟩
  · refine sr_xpg0 b ?_
    refine br_t rfl ?_
    unfold wpY_state
    dsimp only
    refine sr_ypg0 b ?_
    exact br_t rfl ⟨rfl, sr_rel h⟩
  · rw [sr_ix, nI_clamp (n := 16 * i + j) (by omega)]
    refine sr_xpg1 hi hj ?_
    refine br_f sr_10 ⟨vp_in_nI (by omega) (by decide), ?_⟩
    unfold wpY_state
    dsimp only
    refine sr_ypg1 hi hj ?_
    refine br_f sr_10 ⟨pk_in (16 * i + j) 32 (by omega) (sr_iy i j), ?_⟩
    rw [sr_yix hi hj]
    exact ⟨rfl, sr_rel h⟩
theorem i_vc_shared {k : Nat} {u : SX} {v : SY} (I : i_Rel k u v) (hk : k + 5 ≤ 2560) (v1 : Int32) : wpX_shared (fun r => wpY_shared (fun r' => r' = r ∧ i_Rel (k + 5) u v) v v1) u v1 := by
  obtain ⟨st, jo, wx, wy, rfl, rfl, h⟩ := sr_open I
  unfold wpX_shared
  dsimp only
  rcases sr_cv v1 with b | ⟨j, hj, rfl⟩
  · refine sr_xpn0 b ?_
    refine br_t rfl ?_
    by_cases c : v1 < 0
    · exact br_t c ⟨rfl, sr_rel h⟩
    · exact br_f c (br_t (sr_gt (n := 15) (by decide) (b.resolve_left c) c) ⟨rfl, sr_rel h⟩)
  · refine sr_xpn1 hj ?_
    refine br_f sr_10 ⟨vp_in_nI hj (by decide), br_c (fun z => ?_) (fun z => ?_)⟩
    · exact br_f (nI_pos (by omega)) (br_f (nI_nlt (a := 15) (by omega) (by decide)) ⟨vp_in_nI hj (by decide), br_t z ⟨rfl, sr_rel h⟩⟩)
    · exact br_f (nI_pos (by omega)) (br_f (nI_nlt (a := 15) (by omega) (by decide)) ⟨vp_in_nI hj (by decide), br_f z ⟨rfl, sr_rel h⟩⟩)
theorem i_vc_split {k : Nat} {u : SX} {v : SY} (I : i_Rel k u v) (hk : k + 5 ≤ 2560) (v1 : Int32) : wpX_split (fun r u' => wpY_split (fun r' v' => r' = r ∧ i_Rel (k + 5) u' v') v v1) u v1 := by
  obtain ⟨st, jo, wx, wy, rfl, rfl, h⟩ := sr_open I
  unfold wpX_split
  dsimp only
  rcases sr_cp v1 with b | ⟨i, hi, rfl⟩
  · refine sr_xpr0 b ?_
    refine br_t rfl ?_
    by_cases c : v1 < 0
    · exact br_t c ⟨rfl, sr_rel h⟩
    · exact br_f c (br_f (sr_ngt (n := 1) (by decide) (b.resolve_left c) c) ⟨rfl, sr_rel h⟩)
  · obtain ⟨st', jo', wx', wy', hR, hX, hY⟩ := sr_split (i := i) (q := 1 - i) (by omega) 16 0 rfl st jo wx wy h
    refine sr_xpr1 hi ?_
    refine br_f sr_10 ⟨17, hX _ ?_⟩
    exact br_f (nI_pos (by omega)) (br_t (nI_le (b := 1) (by omega) (by decide)) ⟨17, hY _ ⟨rfl, sr_rel hR⟩⟩)
theorem i_vc_copy {k : Nat} {u : SX} {v : SY} (I : i_Rel k u v) (hk : k + 5 ≤ 2560) (v1 : Int32) (v2 : Int32) (v3 : Int32) : wpX_copy (fun r u' => wpY_copy (fun r' v' => r' = r ∧ i_Rel (k + 5) u' v') v v1 v2 v3) u v1 v2 v3 := by
  obtain ⟨st, jo, wx, wy, rfl, rfl, h⟩ := sr_open I
  unfold wpX_copy
  dsimp only
  rcases sr_cpg v1 v2 with b | ⟨i, j, hi, hj, rfl, rfl⟩
  · refine sr_xpg0 b ?_
    refine br_t rfl ?_
    unfold wpY_copy
    dsimp only
    refine sr_ypg0 b ?_
    exact br_t rfl ⟨rfl, sr_rel h⟩
  · refine sr_xpg1 hi hj ?_
    refine br_f sr_10 ?_
    rcases sr_cv v3 with b | ⟨l, hl, rfl⟩
    · refine sr_xpn0 b ?_
      refine br_t rfl ?_
      unfold wpY_copy
      dsimp only
      refine sr_ypg1 hi hj ?_
      refine br_f sr_10 ?_
      refine sr_ypg0 (Or.inr b) ?_
      exact br_t rfl ⟨rfl, sr_rel h⟩
    · refine sr_xpn1 hl ?_
      refine br_f sr_10 ?_
      obtain ⟨r, st', jo', wy', hX, hY, hR, hr⟩ := sr_own h hi hl
      refine hX _ ?_
      dsimp only
      rcases hr with hr | ⟨rfl, h0, h2, hz⟩
      · refine br_f hr ?_
        unfold wpY_copy
        dsimp only
        refine sr_ypg1 hi hj ?_
        refine br_f sr_10 ?_
        refine sr_ypg1 hi hl ?_
        refine br_f sr_10 ⟨2, br_f (nI_ge (a := 0) (b := 4) (by decide) (by decide)) (br_t rfl ?_)⟩
        refine sr_yread (w := 0) h hi hj (by decide) ?_
        refine sr_yw (w := 0) hi hl (by decide) hY (fun n => absurd n hr) (fun _ => ?_)
        dsimp only
        refine nm_r (nI_1 0) ?_
        exact br_f (nI_ge (a := 1) (b := 4) (by decide) (by decide)) (br_f hr ⟨rfl, sr_rel hR⟩)
      · refine br_t rfl ?_
        refine sr_xcw hi hj hi hl ?_
        dsimp only
        unfold wpY_copy
        dsimp only
        refine sr_ypg1 hi hj ?_
        refine br_f sr_10 ?_
        refine sr_ypg1 hi hl ?_
        refine br_f sr_10 ⟨5, br_f (nI_ge (a := 0) (b := 4) (by decide) (by decide)) (br_t rfl ?_)⟩
        refine sr_yread (w := 0) h hi hj (by decide) ?_
        refine sr_yw (w := 0) hi hl (by decide) hY (fun _ => ?_) (fun n => absurd rfl n)
        dsimp only
        refine nm_r (nI_1 0) ?_
        have q := sr_y26 (post := fun r' v' => r' = 0 ∧ i_Rel (k + 5) (st', sr_fill wx (4 * (16 * i + l)) 4 (fun w => wx (4 * (16 * i + j) + w)), jo') v') hR hi hj hl h0 h2 hz ⟨rfl, sr_rel (sr_Rfill hR h0 4 (by decide))⟩ 3 1 rfl
        have e := sr_fs wy' (4 * (16 * i + l)) 0 (fun w => wx (4 * (16 * i + j) + w))
        rw [sr_f0] at e
        rw [← e] at q
        exact q
theorem i_vc_unmapRange {k : Nat} {u : SX} {v : SY} (I : i_Rel k u v) (hk : k + 5 ≤ 2560) (v1 : Int32) (v2 : Int32) (v3 : Int32) : wpX_unmapRange (fun r u' => wpY_unmapRange (fun r' v' => r' = r ∧ i_Rel (k + 5) u' v') v v1 v2 v3) u v1 v2 v3 := by
  obtain ⟨st, jo, wx, wy, rfl, rfl, h⟩ := sr_open I
  unfold wpX_unmapRange
  dsimp only
  rcases sr_cpg v1 v2 with b | ⟨i, j, hi, hj, rfl, rfl⟩
  · refine sr_xpg0 b ?_
    refine br_t rfl ?_
    unfold wpY_unmapRange
    dsimp only
    refine sr_ypg0 b ?_
    exact br_t rfl ⟨rfl, sr_rel h⟩
  · refine sr_xpg1 hi hj ?_
    refine br_f sr_10 ?_
    rcases sr_cv v3 with b | ⟨l, hl, rfl⟩
    · refine sr_xpn0 b ?_
      refine br_t rfl ?_
      unfold wpY_unmapRange
      dsimp only
      refine sr_ypg1 hi hj ?_
      refine br_f sr_10 ?_
      refine sr_ypg0 (Or.inr b) ?_
      exact br_t rfl ⟨rfl, sr_rel h⟩
    · obtain ⟨c', st', jo', wx', wy', hR, hX, hY⟩ := sr_range hi hl 16 j (by omega) (by omega) 0 st jo wx wy h
      refine sr_xpn1 hl ?_
      refine br_f sr_10 ⟨17, hX _ ?_⟩
      unfold wpY_unmapRange
      dsimp only
      refine sr_ypg1 hi hj ?_
      refine br_f sr_10 ?_
      refine sr_ypg1 hi hl ?_
      exact br_f sr_10 ⟨17, hY _ ⟨rfl, sr_rel hR⟩⟩
theorem i_vc_present {k : Nat} {u : SX} {v : SY} (I : i_Rel k u v) (hk : k + 5 ≤ 2560) (v1 : Int32) : wpX_present (fun r => wpY_present (fun r' => r' = r ∧ i_Rel (k + 5) u v) v v1) u v1 := by
  obtain ⟨st, jo, wx, wy, rfl, rfl, h⟩ := sr_open I
  rcases sr_cp v1 with b | ⟨i, hi, rfl⟩
  · unfold wpX_present
    dsimp only
    refine sr_xpr0 b ?_
    refine br_t rfl ?_
    by_cases c : v1 < 0
    · exact br_t c ⟨rfl, sr_rel h⟩
    · exact br_f c (br_f (sr_ngt (n := 1) (by decide) (b.resolve_left c) c) ⟨rfl, sr_rel h⟩)
  · refine sr_xpres hi ?_
    exact sr_ypres hi ⟨rfl, sr_rel h⟩
theorem i_vc_inUse {k : Nat} {u : SX} {v : SY} (I : i_Rel k u v) (hk : k + 5 ≤ 2560) : wpX_inUse (fun r => wpY_inUse (fun r' => r' = r ∧ i_Rel (k + 5) u v) v) u := by
  obtain ⟨st, jo, wx, wy, rfl, rfl, h⟩ := sr_open I
  refine sr_xuse ?_
  exact sr_yuse ⟨rfl, sr_rel h⟩
theorem i_vc_digest {k : Nat} {u : SX} {v : SY} (I : i_Rel k u v) (hk : k + 5 ≤ 2560) (v1 : Int32) : wpX_digest (fun r => wpY_digest (fun r' => r' = r ∧ i_Rel (k + 5) u v) v v1) u v1 := by
  obtain ⟨st, jo, wx, wy, rfl, rfl, h⟩ := sr_open I
  rcases sr_cp v1 with b | ⟨i, hi, rfl⟩
  · unfold wpX_digest
    dsimp only
    refine sr_xpr0 b ?_
    refine br_t rfl ?_
    by_cases c : v1 < 0
    · exact br_t c ⟨rfl, sr_rel h⟩
    · exact br_f c (br_f (sr_ngt (n := 1) (by decide) (b.resolve_left c) c) ⟨rfl, sr_rel h⟩)
  · refine sr_xdg hi ?_
    exact sr_ydg h hi ⟨rfl, sr_rel h⟩
