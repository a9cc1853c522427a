/-! the reference's own methods, each with a general post -/
theorem sr_gt {n : Nat} {p : Int32} (hn : n + 1 < 2 ^ 31) (h : nI (n + 1) ≤ p) (c : ¬ p < 0) : nI n < p := by
  obtain ⟨m, hm, rfl⟩ := nI_of c
  rw [nI_leI hn hm] at h
  exact nI_lt (by omega) hm
theorem sr_ngt {n : Nat} {p : Int32} (hn : n + 1 < 2 ^ 31) (h : nI (n + 1) ≤ p) (c : ¬ p < 0) : ¬ p ≤ nI n := by
  obtain ⟨m, hm, rfl⟩ := nI_of c
  rw [nI_leI hn hm] at h
  exact nI_ge (by omega) hm
theorem sr_ypg1 {post : Int32 → Prop} {st wy jo : Nat → Int32} {i j : Nat} (hi : i < 2) (hj : j < 16) (h : post 1) : wpY_isPage post (st, wy, jo) (nI i) (nI j) :=
  br_f (nI_pos (by omega)) (br_f (nI_nlt (a := 1) (by omega) (by decide)) (br_f (nI_pos (by omega)) (br_f (nI_nlt (a := 15) (by omega) (by decide)) h)))
theorem sr_ypg0 {post : Int32 → Prop} {st wy jo : Nat → Int32} {p v : Int32} (hb : sr_bpg p v) (h : post 0) : wpY_isPage post (st, wy, jo) p v := by
  rcases sr_cp p with b | ⟨i, hi, rfl⟩
  · by_cases c : p < 0
    · exact br_t c h
    · exact br_f c (br_t (sr_gt (n := 1) (by decide) (b.resolve_left c) c) h)
  · refine br_f (nI_pos (by omega)) (br_f (nI_nlt (a := 1) (by omega) (by decide)) ?_)
    rcases hb with b | b
    · exfalso
      rcases b with b | b
      · exact nI_pos (by omega) b
      · exact nI_ge (b := 2) hi (by decide) b
    · by_cases c : v < 0
      · exact br_t c h
      · exact br_f c (br_t (sr_gt (n := 15) (by decide) (b.resolve_left c) c) h)
/-! present, inUse -/
theorem sr_yix {i j : Nat} (hi : i < 2) (hj : j < 16) : (16 * nI i + nI j).toNatClampNeg = 16 * i + j := by
  rw [sr_iy]
  exact nI_clamp (by omega)
theorem sr_yp15 {post : Int32 → Prop} {st wy jo : Nat → Int32} {i : Nat} (hi : i < 2) (h : post (nI (sr_pc st i 16))) : ∀ d j : Nat, j + d = 16 → wY_present_15 post (nI i) st wy jo (d + 1) (nI (sr_pc st i j)) (nI j) := by
  intro d
  induction d with
  | zero =>
    intro j hj
    obtain rfl : j = 16 := by omega
    exact br_t (nI_le (a := 16) (by omega) (by decide)) h
  | succ d ih =>
    intro j hj
    have q := ih (j + 1) (by omega)
    rw [sr_pcs] at q
    refine br_f (nI_ge (b := 16) (by omega) (by decide)) ⟨pk_in (16 * i + j) 32 (by omega) (sr_iy i j), ?_⟩
    rw [sr_yix hi (by omega)]
    refine br_c (fun z => ?_) (fun z => ?_)
    · rw [sr_b0 z] at q
      exact nm_r (nI_1 j) q
    · rw [sr_b1 z] at q
      exact nm_r (nI_1 _) (nm_r (nI_1 j) q)
theorem sr_ypres {post : Int32 → Prop} {st wy jo : Nat → Int32} {i : Nat} (hi : i < 2) (h : post (nI (sr_pc st i 16))) : wpY_present post (st, wy, jo) (nI i) :=
  br_f (nI_pos (by omega)) (br_t (nI_le (b := 1) (by omega) (by decide)) ⟨17, sr_yp15 hi h 16 0 rfl⟩)
theorem sr_yu14 {post : Int32 → Prop} {st wy jo : Nat → Int32} (A : Nat) (h : post (nI A - nI (sr_cnt jo 16))) : ∀ d j : Nat, j + d = 16 → wY_inUse_14 post st wy jo (d + 1) (nI A - nI (sr_cnt jo j)) (nI j) := by
  intro d
  induction d with
  | zero =>
    intro j hj
    obtain rfl : j = 16 := by omega
    exact br_t (nI_le (a := 16) (by omega) (by decide)) h
  | succ d ih =>
    intro j hj
    refine br_f (nI_ge (b := 16) (by omega) (by decide)) ⟨vp_in_nI (by omega) (by decide), ?_⟩
    have q := ih (j + 1) (by omega)
    rw [sr_cs] at q
    rw [nI_clamp (by omega)]
    refine br_c (fun z => nm_r (nI_1 j) ?_) (fun z => nm_r (sr_dec A _) (nm_r (nI_1 j) ?_))
    · rw [sr_b0 z] at q
      exact q
    · rw [sr_b1 z] at q
      exact q
theorem sr_yuse {post : Int32 → Prop} {st wy jo : Nat → Int32} (h : post (nI (sr_cnt st 32) - nI (sr_cnt jo 16))) : wpY_inUse post (st, wy, jo) := by
  have q := sr_yu14 (wy := wy) (st := st) (sr_cnt st 32) h 16 0 rfl
  rw [show sr_cnt jo 0 = 0 from rfl, sr_s0] at q
  unfold wpY_inUse
  dsimp only
  refine sr_ypres (i := 0) (by decide) ?_
  refine sr_ypres (i := 1) (by decide) ?_
  refine nm_r (e' := nI (sr_cnt st 32)) ?_ ⟨17, q⟩
  rw [nI_add, sr_pc2]
/-! touch -/
theorem sr_yt51 {post : Int32 → SY → Prop} {st wy jo : Nat → Int32} {k : Nat} (hk : k < 32) (h : post 1 (st, sr_fill wy (4 * k) 4 (fun _ => 0), jo)) : ∀ d w : Nat, w + d = 4 → wY_touch_51 post (nI k) (d + 1) (nI w) st (sr_fill wy (4 * k) w (fun _ => 0)) jo := by
  intro d
  induction d with
  | zero =>
    intro w hw
    obtain rfl : w = 4 := by omega
    exact br_t (nI_le (a := 4) (by omega) (by decide)) h
  | succ d ih =>
    intro w hw
    have e : upd (sr_fill wy (4 * k) w (fun _ => 0)) (4 * nI k + nI w).toNatClampNeg 0 = sr_fill wy (4 * k) (w + 1) (fun _ => 0) := by
      rw [sr_jy, nI_clamp (by omega)]
      exact sr_fs wy (4 * k) w (fun _ => 0)
    exact br_f (nI_ge (b := 4) (by omega) (by decide)) ⟨pk_in (4 * k + w) 128 (by omega) (sr_jy k w), nm_r e (nm_r (nI_1 w) (ih (w + 1) (by omega)))⟩
theorem sr_ytob {post : Int32 → SY → Prop} {st wy jo : Nat → Int32} {p v : Int32} (b : sr_bpg p v) (h : post (-1) (st, wy, jo)) : wpY_touch post (st, wy, jo) p v := by
  unfold wpY_touch
  dsimp only
  refine sr_ypg0 b ?_
  exact br_t rfl h
theorem sr_ytop {post : Int32 → SY → Prop} {st wy jo : Nat → Int32} {i j : Nat} (hi : i < 2) (hj : j < 16) (hz : ¬ st (16 * i + j) = 0) (h : post 0 (st, wy, jo)) : wpY_touch post (st, wy, jo) (nI i) (nI j) := by
  unfold wpY_touch
  dsimp only
  refine sr_ypg1 hi hj ?_
  refine br_f sr_10 (nm_r (sr_iy i j) ⟨vp_in_nI (by omega) (by decide), ?_⟩)
  rw [nI_clamp (by omega)]
  exact br_f hz h
theorem sr_ytof {post : Int32 → SY → Prop} {st wy jo : Nat → Int32} {i j : Nat} (hi : i < 2) (hj : j < 16) (hz : st (16 * i + j) = 0) (hf : nI (sr_cnt st 32) - nI (sr_cnt jo 16) = 16) (h : post (-2) (st, wy, jo)) : wpY_touch post (st, wy, jo) (nI i) (nI j) := by
  unfold wpY_touch
  dsimp only
  refine sr_ypg1 hi hj ?_
  refine br_f sr_10 (nm_r (sr_iy i j) ⟨vp_in_nI (by omega) (by decide), ?_⟩)
  rw [nI_clamp (by omega)]
  refine br_t hz ?_
  refine sr_yuse ?_
  exact br_t hf h
theorem sr_yton {post : Int32 → SY → Prop} {st wy jo : Nat → Int32} {i j : Nat} (hi : i < 2) (hj : j < 16) (hz : st (16 * i + j) = 0) (hf : ¬ nI (sr_cnt st 32) - nI (sr_cnt jo 16) = 16) (h : post 1 (upd st (16 * i + j) 1, sr_fill wy (4 * (16 * i + j)) 4 (fun _ => 0), jo)) : wpY_touch post (st, wy, jo) (nI i) (nI j) := by
  have q := sr_yt51 (k := 16 * i + j) (by omega) h 4 0 rfl
  rw [sr_f0] at q
  unfold wpY_touch
  dsimp only
  refine sr_ypg1 hi hj ?_
  refine br_f sr_10 (nm_r (sr_iy i j) ⟨vp_in_nI (by omega) (by decide), ?_⟩)
  rw [nI_clamp (by omega)]
  refine br_t hz ?_
  refine sr_yuse ?_
  exact br_f hf ⟨vp_in_nI (by omega) (by decide), nm_e ⟨5, q⟩⟩
/-! own -/
theorem sr_m20 : ¬ (-2 : Int32) = 0 := by decide
theorem sr_m40 : ¬ (-4 : Int32) = 0 := by decide
theorem sr_1m2 : ¬ (1 : Int32) = -2 := by decide
theorem sr_12 : ¬ (1 : Int32) = 2 := by decide
theorem sr_yoA {post : Int32 → SY → Prop} {st wy jo : Nat → Int32} {i j : Nat} (hi : i < 2) (hj : j < 16) (h2 : st (16 * i + j) = 2) (h : post (-4) (st, wy, jo)) : wpY_own post (st, wy, jo) (nI i) (nI j) := by
  unfold wpY_own
  dsimp only
  rw [sr_iy, nI_clamp (n := 16 * i + j) (by omega)]
  exact ⟨vp_in_nI (by omega) (by decide), br_t h2 h⟩
theorem sr_yoB {post : Int32 → SY → Prop} {st wy jo : Nat → Int32} {i j : Nat} (hi : i < 2) (hj : j < 16) (h2 : ¬ st (16 * i + j) = 2) (h0 : st (16 * i + j) = 0) (hf : nI (sr_cnt st 32) - nI (sr_cnt jo 16) = 16) (h : post (-2) (st, wy, jo)) : wpY_own post (st, wy, jo) (nI i) (nI j) := by
  unfold wpY_own
  dsimp only
  rw [sr_iy, nI_clamp (n := 16 * i + j) (by omega)]
  refine ⟨vp_in_nI (by omega) (by decide), br_f h2 ⟨vp_in_nI (by omega) (by decide), br_t h0 ?_⟩⟩
  refine sr_ytof hi hj h0 hf ?_
  exact br_t rfl h
theorem sr_yoC {post : Int32 → SY → Prop} {st wy jo : Nat → Int32} {i j : Nat} (hi : i < 2) (hj : j < 16) (h2 : ¬ st (16 * i + j) = 2) (h0 : st (16 * i + j) = 0) (hf : ¬ nI (sr_cnt st 32) - nI (sr_cnt jo 16) = 16) (h : post 0 (upd st (16 * i + j) 1, sr_fill wy (4 * (16 * i + j)) 4 (fun _ => 0), jo)) : wpY_own post (st, wy, jo) (nI i) (nI j) := by
  unfold wpY_own
  dsimp only
  rw [sr_iy, nI_clamp (n := 16 * i + j) (by omega)]
  refine ⟨vp_in_nI (by omega) (by decide), br_f h2 ⟨vp_in_nI (by omega) (by decide), br_t h0 ?_⟩⟩
  refine sr_yton hi hj h0 hf ?_
  exact br_f sr_1m2 h
theorem sr_yoD {post : Int32 → SY → Prop} {st wy jo : Nat → Int32} {i j : Nat} (hi : i < 2) (hj : j < 16) (h2 : ¬ st (16 * i + j) = 2) (h0 : ¬ st (16 * i + j) = 0) (hz : jo j = 0) (h : post 0 (st, wy, jo)) : wpY_own post (st, wy, jo) (nI i) (nI j) := by
  unfold wpY_own
  dsimp only
  rw [sr_iy, nI_clamp (n := 16 * i + j) (by omega), nI_clamp (n := j) (by omega)]
  exact ⟨vp_in_nI (by omega) (by decide), br_f h2 ⟨vp_in_nI (by omega) (by decide), br_f h0 ⟨vp_in_nI (by omega) (by decide), br_t hz h⟩⟩⟩
theorem sr_yoE {post : Int32 → SY → Prop} {st wy jo : Nat → Int32} {i j : Nat} (hi : i < 2) (hj : j < 16) (h2 : ¬ st (16 * i + j) = 2) (h0 : ¬ st (16 * i + j) = 0) (hz : ¬ jo j = 0) (hf : nI (sr_cnt st 32) - nI (sr_cnt jo 16) = 16) (h : post (-2) (st, wy, jo)) : wpY_own post (st, wy, jo) (nI i) (nI j) := by
  unfold wpY_own
  dsimp only
  rw [sr_iy, nI_clamp (n := 16 * i + j) (by omega), nI_clamp (n := j) (by omega)]
  refine ⟨vp_in_nI (by omega) (by decide), br_f h2 ⟨vp_in_nI (by omega) (by decide), br_f h0 ⟨vp_in_nI (by omega) (by decide), br_f hz ?_⟩⟩⟩
  refine sr_yuse ?_
  exact br_t hf h
theorem sr_yoF {post : Int32 → SY → Prop} {st wy jo : Nat → Int32} {i j : Nat} (hi : i < 2) (hj : j < 16) (h2 : ¬ st (16 * i + j) = 2) (h0 : ¬ st (16 * i + j) = 0) (hz : ¬ jo j = 0) (hf : ¬ nI (sr_cnt st 32) - nI (sr_cnt jo 16) = 16) (h : post 0 (st, wy, upd jo j 0)) : wpY_own post (st, wy, jo) (nI i) (nI j) := by
  unfold wpY_own
  dsimp only
  rw [sr_iy, nI_clamp (n := 16 * i + j) (by omega), nI_clamp (n := j) (by omega), sr_n0]
  refine ⟨vp_in_nI (by omega) (by decide), br_f h2 ⟨vp_in_nI (by omega) (by decide), br_f h0 ⟨vp_in_nI (by omega) (by decide), br_f hz ?_⟩⟩⟩
  refine sr_yuse ?_
  exact br_f hf ⟨vp_in_nI (by omega) (by decide), nm_e h⟩
/-! the component's makeOwn beside it -/
theorem sr_xmoA {post : Int32 → SX → Prop} {st wx jo : Nat → Int32} {i j : Nat} (hi : i < 2) (hj : j < 16) (h2 : st (16 * i + j) = 2) (h : post (-4) (st, wx, jo)) : wpX_makeOwn post (st, wx, jo) (nI i) (nI j) := by
  unfold wpX_makeOwn wpX_pageIndex
  dsimp only
  rw [sr_ix, nI_clamp (n := 16 * i + j) (by omega)]
  exact ⟨vp_in_nI (by omega) (by decide), br_t h2 h⟩
theorem sr_xmoB {post : Int32 → SX → Prop} {st wx jo : Nat → Int32} {i j : Nat} (hi : i < 2) (hj : j < 16) (h2 : ¬ st (16 * i + j) = 2) (hn : st (16 * i + j) = 0 ∨ ¬ jo j = 0) (h : wX_makeOwn_37 post (nI j) (nI (16 * i + j)) st wx jo) : wpX_makeOwn post (st, wx, jo) (nI i) (nI j) := by
  unfold wpX_makeOwn wpX_pageIndex
  dsimp only
  rw [sr_ix, nI_clamp (n := 16 * i + j) (by omega), nI_clamp (n := j) (by omega)]
  refine ⟨vp_in_nI (by omega) (by decide), br_f h2 ⟨vp_in_nI (by omega) (by decide), ?_⟩⟩
  by_cases z : jo j = 0
  · have h0 : st (16 * i + j) = 0 := hn.resolve_right (fun q => q z)
    exact br_t z ⟨vp_in_nI (by omega) (by decide), br_t h0 h⟩
  · exact br_f z h
theorem sr_xmoD {post : Int32 → SX → Prop} {st wx jo : Nat → Int32} {i j : Nat} (hi : i < 2) (hj : j < 16) (h2 : ¬ st (16 * i + j) = 2) (h0 : ¬ st (16 * i + j) = 0) (hz : jo j = 0) (h : wX_makeOwn_42 post (nI j) (nI (16 * i + j)) 0 st wx jo) : wpX_makeOwn post (st, wx, jo) (nI i) (nI j) := by
  unfold wpX_makeOwn wpX_pageIndex
  dsimp only
  rw [sr_ix, nI_clamp (n := 16 * i + j) (by omega), nI_clamp (n := j) (by omega)]
  exact ⟨vp_in_nI (by omega) (by decide), br_f h2 ⟨vp_in_nI (by omega) (by decide), br_t hz ⟨vp_in_nI (by omega) (by decide), br_f h0 h⟩⟩⟩
theorem sr_xm61 {post : Int32 → SX → Prop} {st wx jo : Nat → Int32} {k j : Nat} (hk : k < 32) (hj : j < 16) (h : post 0 (upd st k 1, wx, upd jo j 0)) : wX_makeOwn_61 post (nI j) (nI k) st wx jo := by
  unfold wX_makeOwn_61
  rw [nI_clamp (n := k) (by omega), nI_clamp (n := j) (by omega), sr_n0]
  exact ⟨vp_in_nI (by omega) (by decide), nm_e ⟨vp_in_nI (by omega) (by decide), nm_e h⟩⟩
theorem sr_xm37f {post : Int32 → SX → Prop} {st wx jo : Nat → Int32} {k j : Nat} (hf : ¬ nI (sr_cnt st 32) - nI (sr_cnt jo 16) < 16) (h : post (-2) (st, wx, jo)) : wX_makeOwn_37 post (nI j) (nI k) st wx jo := by
  unfold wX_makeOwn_37 wX_makeOwn_42
  refine br_f sr_10 ?_
  refine sr_xuse ?_
  exact br_f hf h
theorem sr_xm37n {post : Int32 → SX → Prop} {st wx jo : Nat → Int32} {k j : Nat} (hk : k < 32) (hj : j < 16) (hf : nI (sr_cnt st 32) - nI (sr_cnt jo 16) < 16) (h : post 0 (upd st k 1, wx, upd jo j 0)) : wX_makeOwn_37 post (nI j) (nI k) st wx jo := by
  unfold wX_makeOwn_37 wX_makeOwn_42
  refine br_f sr_10 ?_
  refine sr_xuse ?_
  exact br_t hf (sr_xm61 hk hj h)
/-- makeOwn and own in lockstep -/
theorem sr_own {st jo wx wy : Nat → Int32} (h : sr_R st jo wx wy) {i j : Nat} (hi : i < 2) (hj : j < 16) :
    ∃ (r : Int32) (st' jo' wy' : Nat → Int32),
      (∀ post : Int32 → SX → Prop, post r (st', wx, jo') → wpX_makeOwn post (st, wx, jo) (nI i) (nI j)) ∧
      (∀ post : Int32 → SY → Prop, post r (st', wy', jo') → wpY_own post (st, wy, jo) (nI i) (nI j)) ∧
      sr_R st' jo' wx wy' ∧ (¬ r = 0 ∨ (r = 0 ∧ ¬ st' (16 * i + j) = 0 ∧ ¬ st' (16 * i + j) = 2 ∧ jo' j = 0)) := by
  obtain ⟨hS, hJ, hN, hW⟩ := id h
  by_cases h2 : st (16 * i + j) = 2
  · exact ⟨-4, st, jo, wy, fun post hp => sr_xmoA hi hj h2 hp, fun post hp => sr_yoA hi hj h2 hp, h, Or.inl sr_m40⟩
  · by_cases h0 : st (16 * i + j) = 0
    · have hz : jo j = 0 := sr_jz hJ hi hj h0
      rcases sr_full hJ hN with ⟨f1, f2⟩ | ⟨f1, f2, f3⟩
      · exact ⟨-2, st, jo, wy, fun post hp => sr_xmoB hi hj h2 (Or.inl h0) (sr_xm37f f2 hp), fun post hp => sr_yoB hi hj h2 h0 f1 hp, h, Or.inl sr_m20⟩
      · refine ⟨0, upd st (16 * i + j) 1, jo, sr_fill wy (4 * (16 * i + j)) 4 (fun _ => 0), fun post hp => sr_xmoB hi hj h2 (Or.inl h0) (sr_xm37n (by omega) hj f2 ?_), fun post hp => sr_yoC hi hj h2 h0 f1 hp, sr_come h hi hj h0 f3, Or.inr ⟨rfl, ?_, ?_, hz⟩⟩
        · rw [sr_ui hz]
          exact hp
        · rw [pk_us]
          exact sr_10
        · rw [pk_us]
          exact sr_12
    · have h1 : st (16 * i + j) = 1 := by
        rcases hS (16 * i + j) (by omega) with a | a | a
        · exact absurd a h0
        · exact a
        · exact absurd a h2
      by_cases hz : jo j = 0
      · refine ⟨0, st, jo, wy, fun post hp => sr_xmoD hi hj h2 h0 hz ?_, fun post hp => sr_yoD hi hj h2 h0 hz hp, h, Or.inr ⟨rfl, h0, h2, hz⟩⟩
        unfold wX_makeOwn_42
        refine br_t rfl (sr_xm61 (by omega) hj ?_)
        rw [sr_ui h1, sr_ui hz]
        exact hp
      · rcases sr_full hJ hN with ⟨f1, f2⟩ | ⟨f1, f2, f3⟩
        · exact ⟨-2, st, jo, wy, fun post hp => sr_xmoB hi hj h2 (Or.inr hz) (sr_xm37f f2 hp), fun post hp => sr_yoE hi hj h2 h0 hz f1 hp, h, Or.inl sr_m20⟩
        · refine ⟨0, st, upd jo j 0, wy, fun post hp => sr_xmoB hi hj h2 (Or.inr hz) (sr_xm37n (by omega) hj f2 ?_), fun post hp => sr_yoF hi hj h2 h0 hz f1 hp, sr_lone h hj hz f3, Or.inr ⟨rfl, h0, h2, pk_us⟩⟩
          rw [sr_ui h1]
          exact hp
