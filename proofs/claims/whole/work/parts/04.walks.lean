/-! words: read, write -/
theorem sr_ywix {i j w : Nat} (hi : i < 2) (hj : j < 16) (hw : w < 4) : (4 * (16 * nI i + nI j) + nI w).toNatClampNeg = 4 * (16 * i + j) + w := by
  rw [sr_iy, sr_jy]
  exact nI_clamp (by omega)
theorem sr_yread {post : Int32 → Prop} {st jo wx wy : Nat → Int32} (h : sr_R st jo wx wy) {i j w : Nat} (hi : i < 2) (hj : j < 16) (hw : w < 4) (hp : post (wx (4 * (16 * i + j) + w))) : wpY_read post (st, wy, jo) (nI i) (nI j) (nI w) := by
  have hW := h.2.2.2 (16 * i + j) w (by omega) hw
  unfold wpY_read
  dsimp only
  refine sr_ypg1 hi hj ?_
  refine br_f sr_10 (br_f (nI_pos (by omega)) (br_f (nI_nlt (a := 3) (by omega) (by decide)) ⟨pk_in (16 * i + j) 32 (by omega) (sr_iy i j), ?_⟩))
  rw [sr_yix hi hj, sr_ywix hi hj hw]
  refine br_c (fun z => ?_) (fun z => ⟨?_, ?_⟩)
  · rw [hW.1 z] at hp
    exact hp
  · rw [sr_iy, sr_jy]
    exact vp_in_nI (by omega) (by decide)
  · rw [hW.2 z] at hp
    exact hp
theorem sr_xread {post : Int32 → Prop} {st wx jo : Nat → Int32} {i j w : Nat} (hi : i < 2) (hj : j < 16) (hw : w < 4) (hp : post (wx (4 * (16 * i + j) + w))) : wpX_read post (st, wx, jo) (nI i) (nI j) (nI w) := by
  unfold wpX_read wpX_wordIndex
  dsimp only
  rw [sr_ix, sr_jx, nI_clamp (by omega)]
  refine sr_xpg1 hi hj ?_
  refine br_f sr_10 ?_
  refine sr_xwo1 hw ?_
  exact br_f sr_10 ⟨vp_in_nI (by omega) (by decide), hp⟩
theorem sr_yw {post : Int32 → SY → Prop} {st wy jo st' wy' jo' : Nat → Int32} {r x : Int32} {i j w : Nat} (hi : i < 2) (hj : j < 16) (hw : w < 4)
    (ho : ∀ post' : Int32 → SY → Prop, post' r (st', wy', jo') → wpY_own post' (st, wy, jo) (nI i) (nI j))
    (h0 : r = 0 → post r (st', upd wy' (4 * (16 * i + j) + w) x, jo')) (h1 : ¬ r = 0 → post r (st', wy', jo')) : wpY_write post (st, wy, jo) (nI i) (nI j) (nI w) x := by
  unfold wpY_write
  dsimp only
  refine sr_ypg1 hi hj ?_
  refine br_f sr_10 (br_f (nI_pos (by omega)) (br_t (nI_le (b := 3) (by omega) (by decide)) ?_))
  refine ho _ ?_
  dsimp only
  rw [sr_ywix hi hj hw]
  refine br_c (fun z => ⟨?_, nm_e (h0 z)⟩) h1
  rw [sr_iy, sr_jy]
  exact vp_in_nI (by omega) (by decide)
theorem sr_xw {post : Int32 → SX → Prop} {st wx jo st' wx' jo' : Nat → Int32} {r x : Int32} {i j w : Nat} (hi : i < 2) (hj : j < 16) (hw : w < 4)
    (ho : ∀ post' : Int32 → SX → Prop, post' r (st', wx', jo') → wpX_makeOwn post' (st, wx, jo) (nI i) (nI j))
    (h0 : r = 0 → post r (st', upd wx' (4 * (16 * i + j) + w) x, jo')) (h1 : ¬ r = 0 → post r (st', wx', jo')) : wpX_write post (st, wx, jo) (nI i) (nI j) (nI w) x := by
  unfold wpX_write wpX_wordIndex
  dsimp only
  refine sr_xpg1 hi hj ?_
  refine br_f sr_10 ?_
  refine sr_xwo1 hw ?_
  refine br_f sr_10 ?_
  refine ho _ ?_
  dsimp only
  rw [sr_ix, sr_jx, nI_clamp (by omega)]
  exact br_c (fun z => ⟨vp_in_nI (by omega) (by decide), nm_e (h0 z)⟩) h1
/-! split -/
theorem sr_y72 {post : Int32 → SY → Prop} {J : Int32 → (Nat → Int32) → (Nat → Int32) → (Nat → Int32) → Prop} {x1 : Int32} {st wy jo : Nat → Int32} {v a b : Nat} (ha : a < 32) (hb : b < 32) (h : J (nI (v + 1)) st (sr_fill wy (4 * b) 4 (fun w => wy (4 * a + w))) jo) :
    ∀ d w : Nat, w + d = 4 → wY_split_72 post J x1 (nI v) (nI a) (nI b) (d + 1) (nI w) st (sr_fill wy (4 * b) w (fun w => wy (4 * a + w))) jo := by
  intro d
  induction d with
  | zero =>
    intro w hw
    obtain rfl : w = 4 := by omega
    exact br_t (nI_le (a := 4) (by omega) (by decide)) (nm_r (nI_1 v) h)
  | succ d ih =>
    intro w hw
    have e : upd (sr_fill wy (4 * b) w (fun w => wy (4 * a + w))) (4 * nI b + nI w).toNatClampNeg (sr_fill wy (4 * b) w (fun w => wy (4 * a + w)) (4 * nI a + nI w).toNatClampNeg) = sr_fill wy (4 * b) (w + 1) (fun w => wy (4 * a + w)) := by
      rw [sr_jy, sr_jy, nI_clamp (by omega), nI_clamp (by omega), sr_fout (by omega)]
      exact sr_fs wy (4 * b) w (fun w => wy (4 * a + w))
    exact br_f (nI_ge (b := 4) (by omega) (by decide)) ⟨pk_in (4 * a + w) 128 (by omega) (sr_jy a w), pk_in (4 * b + w) 128 (by omega) (sr_jy b w), nm_r e (nm_r (nI_1 w) (ih (w + 1) (by omega)))⟩
theorem sr_split {i q : Nat} (hiq : i + q = 1) : ∀ d j : Nat, j + d = 16 → ∀ st jo wx wy : Nat → Int32, sr_R st jo wx wy →
    ∃ st' jo' wx' wy' : Nat → Int32, sr_R st' jo' wx' wy' ∧
      (∀ post : Int32 → SX → Prop, post (nI (sr_pc st i 16)) (st', wx', jo') → wX_split_13 post (nI i) (d + 1) (nI (sr_pc st i j)) (nI j) st wx jo) ∧
      (∀ post : Int32 → SY → Prop, post (nI (sr_pc st i 16)) (st', wy', jo') → wY_split_13 post (nI i) (d + 1) (nI j) st wy jo) := by
  intro d
  induction d with
  | zero =>
    intro j hj st jo wx wy h
    obtain rfl : j = 16 := by omega
    refine ⟨st, jo, wx, wy, h, fun post hp => br_t (nI_le (a := 16) (by omega) (by decide)) hp, fun post hp => br_t (nI_le (a := 16) (by omega) (by decide)) ?_⟩
    refine sr_ypres (by omega) ?_
    exact hp
  | succ d ih =>
    intro j hj st jo wx wy h
    have hi : i < 2 := by omega
    have hq : q < 2 := by omega
    have hj' : j < 16 := by omega
    by_cases z : st (16 * i + j) = 0
    · obtain ⟨st', jo', wx', wy', hR, hX, hY⟩ := ih (j + 1) (by omega) (upd st (16 * q + j) 0) (upd jo j 0) (sr_fill wx (4 * (16 * q + j)) 4 (fun _ => 0)) (sr_fill wy (4 * (16 * q + j)) 4 (fun w => wy (4 * (16 * i + j) + w))) (sr_any (sr_gone h hq hj') pk_us)
      have e16 : sr_pc (upd st (16 * q + j) 0) i 16 = sr_pc st i 16 := sr_pce 16 (fun v hv => pk_un (by omega))
      have ej : sr_pc (upd st (16 * q + j) 0) i (j + 1) = sr_pc st i j := by
        rw [sr_pce (j + 1) (fun v hv => pk_un (by omega)), sr_pcs, sr_b0 z]
        rfl
      have z1 : upd st (16 * q + j) 0 (16 * i + j) = 0 := by
        rw [pk_un (by omega)]
        exact z
      rw [e16, ej] at hX
      rw [e16] at hY
      refine ⟨st', jo', wx', wy', hR, fun post hp => ?_, fun post hp => ?_⟩
      · refine br_f (nI_ge (b := 16) hj' (by decide)) ?_
        rw [sr_oth hiq]
        refine sr_xab hq hj' ?_
        dsimp only
        refine sr_xps hi hj' (fun _ => ?_) (fun n => absurd z1 n)
        exact br_t rfl (nm_r (nI_1 j) (hX post hp))
      · have e4 : 16 * (1 - nI i) + nI j = nI (16 * q + j) := by
          rw [sr_oth hiq, sr_iy]
        refine br_f (nI_ge (b := 16) hj' (by decide)) (nm_r (sr_iy i j) (nm_r e4 ⟨vp_in_nI (by omega) (by decide), vp_in_nI (by omega) (by decide), nm_r (e' := upd st (16 * q + j) 0) ?_ ⟨vp_in_nI (by omega) (by decide), ?_⟩⟩))
        · rw [nI_clamp (n := 16 * q + j) (by omega), nI_clamp (n := 16 * i + j) (by omega), z]
        · rw [nI_clamp (n := 16 * i + j) (by omega)]
          refine br_t z1 ⟨vp_in_nI hj' (by decide), nm_r (e' := upd jo j 0) ?_ ⟨5, ?_⟩⟩
          · rw [nI_clamp (by omega), sr_n0]
          · have w := sr_y72 (post := post) (J := wY_split_13 post (nI i) (d + 1)) (x1 := nI i) (st := upd st (16 * q + j) 0) (wy := wy) (jo := upd jo j 0) (v := j) (a := 16 * i + j) (b := 16 * q + j) (by omega) (by omega) (hY post hp) 4 0 rfl
            rw [sr_f0] at w
            exact w
    · obtain ⟨st', jo', wx', wy', hR, hX, hY⟩ := ih (j + 1) (by omega) _ _ _ _ (sr_share h hiq hj' z)
      have e16 : sr_pc (upd st (16 * q + j) (st (16 * i + j))) i 16 = sr_pc st i 16 := sr_pce 16 (fun v hv => pk_un (by omega))
      have ej : sr_pc (upd st (16 * q + j) (st (16 * i + j))) i (j + 1) = sr_pc st i j + 1 := by
        rw [sr_pce (j + 1) (fun v hv => pk_un (by omega)), sr_pcs, sr_b1 z]
      have z1 : ∀ x : Int32, upd st (16 * q + j) x (16 * i + j) = st (16 * i + j) := fun x => pk_un (by omega)
      rw [e16, ej] at hX
      rw [e16] at hY
      refine ⟨st', jo', wx', wy', hR, fun post hp => ?_, fun post hp => ?_⟩
      · refine br_f (nI_ge (b := 16) hj' (by decide)) ?_
        rw [sr_oth hiq]
        refine sr_xab hq hj' ?_
        dsimp only
        refine sr_xps hi hj' (fun n => absurd ((z1 0).symm.trans n) z) (fun _ => ?_)
        refine br_f sr_10 ?_
        refine sr_xsh hiq hj' ?_
        dsimp only
        have ew : sr_fill (sr_fill wx (4 * (16 * q + j)) 4 (fun _ => 0)) (4 * (16 * q + j)) 4 (fun w => sr_fill wx (4 * (16 * q + j)) 4 (fun _ => 0) (4 * (16 * i + j) + w)) = sr_fill wx (4 * (16 * q + j)) 4 (fun w => wx (4 * (16 * i + j) + w)) := by
          rw [sr_ff]
          exact sr_fe (fun w hw => sr_fout (by omega))
        rw [z1, sr_uu, sr_uu, ew]
        exact nm_r (nI_1 _) (nm_r (nI_1 j) (hX post hp))
      · have e4 : 16 * (1 - nI i) + nI j = nI (16 * q + j) := by
          rw [sr_oth hiq, sr_iy]
        refine br_f (nI_ge (b := 16) hj' (by decide)) (nm_r (sr_iy i j) (nm_r e4 ⟨vp_in_nI (by omega) (by decide), vp_in_nI (by omega) (by decide), nm_r (e' := upd st (16 * q + j) (st (16 * i + j))) ?_ ⟨vp_in_nI (by omega) (by decide), ?_⟩⟩))
        · rw [nI_clamp (n := 16 * q + j) (by omega), nI_clamp (n := 16 * i + j) (by omega)]
        · rw [nI_clamp (n := 16 * i + j) (by omega)]
          refine br_f (fun n => z ((z1 _).symm.trans n)) ⟨vp_in_nI hj' (by decide), nm_r (e' := upd jo j 1) ?_ ⟨5, ?_⟩⟩
          · rw [nI_clamp (by omega), sr_n1]
          · have w := sr_y72 (post := post) (J := wY_split_13 post (nI i) (d + 1)) (x1 := nI i) (st := upd st (16 * q + j) (st (16 * i + j))) (wy := wy) (jo := upd jo j 1) (v := j) (a := 16 * i + j) (b := 16 * q + j) (by omega) (by omega) (hY post hp) 4 0 rfl
            rw [sr_f0] at w
            exact w
/-! unmap, unmapRange -/
theorem sr_xun {post : Int32 → SX → Prop} {st wx jo : Nat → Int32} {i j : Nat} (hi : i < 2) (hj : j < 16) (h0 : st (16 * i + j) = 0 → post (-3) (st, wx, jo)) (h1 : ¬ st (16 * i + j) = 0 → post 0 (upd st (16 * i + j) 0, sr_fill wx (4 * (16 * i + j)) 4 (fun _ => 0), upd jo j 0)) : wpX_unmap post (st, wx, jo) (nI i) (nI j) := by
  unfold wpX_unmap
  dsimp only
  refine sr_xpg1 hi hj ?_
  refine br_f sr_10 ?_
  refine sr_xps hi hj (fun z => br_t rfl (h0 z)) (fun z => ?_)
  refine br_f sr_10 ?_
  refine sr_xab hi hj ?_
  exact h1 z
theorem sr_yun {post : Int32 → SY → Prop} {st wy jo : Nat → Int32} {i j : Nat} (hi : i < 2) (hj : j < 16) (h0 : st (16 * i + j) = 0 → post (-3) (st, wy, jo)) (h1 : ¬ st (16 * i + j) = 0 → post 0 (upd st (16 * i + j) 0, wy, upd jo j 0)) : wpY_unmap post (st, wy, jo) (nI i) (nI j) := by
  unfold wpY_unmap
  dsimp only
  refine sr_ypg1 hi hj ?_
  refine br_f sr_10 ⟨pk_in (16 * i + j) 32 (by omega) (sr_iy i j), ?_⟩
  rw [sr_iy, nI_clamp (n := 16 * i + j) (by omega), nI_clamp (n := j) (by omega), sr_n0]
  exact br_c h0 (fun z => ⟨vp_in_nI (by omega) (by decide), nm_e ⟨vp_in_nI hj (by decide), nm_e (h1 z)⟩⟩)
theorem sr_m30 : ¬ (-3 : Int32) = 0 := by decide
theorem sr_range {i t : Nat} (hi : i < 2) (ht : t < 16) : ∀ d j : Nat, t + 1 ≤ j + d → j ≤ 16 → ∀ (c : Nat) (st jo wx wy : Nat → Int32), sr_R st jo wx wy →
    ∃ (c' : Nat) (st' jo' wx' wy' : Nat → Int32), sr_R st' jo' wx' wy' ∧
      (∀ post : Int32 → SX → Prop, post (nI c') (st', wx', jo') → wX_unmapRange_23 post (nI i) (nI t) (d + 1) (nI c) (nI j) st wx jo) ∧
      (∀ post : Int32 → SY → Prop, post (nI c') (st', wy', jo') → wY_unmapRange_26 post (nI i) (nI t) (d + 1) (nI c) (nI j) st wy jo) := by
  intro d
  induction d with
  | zero =>
    intro j hj hj2 c st jo wx wy h
    have hl : nI t < nI j := nI_lt (by omega) (by omega)
    exact ⟨c, st, jo, wx, wy, h, fun post hp => br_t hl hp, fun post hp => br_t hl hp⟩
  | succ d ih =>
    intro j hj hj2 c st jo wx wy h
    by_cases g : t < j
    · have hl : nI t < nI j := nI_lt g (by omega)
      exact ⟨c, st, jo, wx, wy, h, fun post hp => br_t hl hp, fun post hp => br_t hl hp⟩
    · have hl : ¬ nI t < nI j := nI_nlt (by omega) (by omega)
      have hj' : j < 16 := by omega
      by_cases z : st (16 * i + j) = 0
      · obtain ⟨c', st', jo', wx', wy', hR, hX, hY⟩ := ih (j + 1) (by omega) (by omega) c st jo wx wy h
        refine ⟨c', st', jo', wx', wy', hR, fun post hp => ?_, fun post hp => ?_⟩
        · refine br_f hl ?_
          refine sr_xps hi hj' (fun _ => ?_) (fun n => absurd z n)
          exact br_t rfl (nm_r (nI_1 j) (hX post hp))
        · refine br_f hl ?_
          refine sr_yun hi hj' (fun _ => ?_) (fun n => absurd z n)
          exact br_f sr_m30 (nm_r (nI_1 j) (hY post hp))
      · obtain ⟨c', st', jo', wx', wy', hR, hX, hY⟩ := ih (j + 1) (by omega) (by omega) (c + 1) _ _ _ _ (sr_gone h hi hj')
        refine ⟨c', st', jo', wx', wy', hR, fun post hp => ?_, fun post hp => ?_⟩
        · refine br_f hl ?_
          refine sr_xps hi hj' (fun n => absurd n z) (fun _ => ?_)
          refine br_f sr_10 ?_
          refine sr_xab hi hj' ?_
          exact nm_r (nI_1 c) (nm_r (nI_1 j) (hX post hp))
        · refine br_f hl ?_
          refine sr_yun hi hj' (fun n => absurd n z) (fun _ => ?_)
          exact br_t rfl (nm_r (nI_1 c) (nm_r (nI_1 j) (hY post hp)))
/-! copy -/
theorem sr_Rfill {st jo wx wy g : Nat → Int32} {b : Nat} (h : sr_R st jo wx wy) (hz : ¬ st b = 0) : ∀ n, n ≤ 4 → sr_R st jo (sr_fill wx (4 * b) n g) (sr_fill wy (4 * b) n g) := by
  intro n
  induction n with
  | zero =>
    intro _
    rw [sr_f0, sr_f0]
    exact h
  | succ n ih =>
    intro hn
    rw [← sr_fs, ← sr_fs]
    exact sr_word (ih (by omega)) (by omega) hz
theorem sr_y26 {post : Int32 → SY → Prop} {st jo wx wy : Nat → Int32} {i v u : Nat} (h : sr_R st jo wx wy) (hi : i < 2) (hv : v < 16) (hu : u < 16) (h0 : ¬ st (16 * i + u) = 0) (h2 : ¬ st (16 * i + u) = 2) (hz : jo u = 0)
    (hp : post 0 (st, sr_fill wy (4 * (16 * i + u)) 4 (fun w => wx (4 * (16 * i + v) + w)), jo)) :
    ∀ d w : Nat, w + d = 4 → wY_copy_26 post (nI i) (nI v) (nI u) (d + 1) 0 (nI w) st (sr_fill wy (4 * (16 * i + u)) w (fun w => wx (4 * (16 * i + v) + w))) jo := by
  intro d
  induction d with
  | zero =>
    intro w hw
    obtain rfl : w = 4 := by omega
    exact br_t (nI_le (a := 4) (by omega) (by decide)) hp
  | succ d ih =>
    intro w hw
    have hr := sr_Rfill (g := fun w => wx (4 * (16 * i + v) + w)) h h0 w (by omega)
    refine br_f (nI_ge (b := 4) (by omega) (by decide)) (br_t rfl ?_)
    refine sr_yread hr hi hv (by omega) ?_
    rw [sr_fout (by omega)]
    refine sr_yw hi hu (by omega) (fun post' hp' => sr_yoD hi hu h2 h0 hz hp') (fun _ => ?_) (fun n => absurd rfl n)
    dsimp only
    refine nm_r (nI_1 w) ?_
    have q := ih (w + 1) (by omega)
    rw [← sr_fs] at q
    exact q
/-! digest -/
theorem sr_yd24 {post : Int32 → Prop} {J : Int32 → Int32 → Prop} {st jo wx wy : Nat → Int32} (h : sr_R st jo wx wy) {i v : Nat} (hi : i < 2) (hv : v < 16) (hJ : J (sr_dg (fun n => wx (64 * i + n)) (4 * v + 4)) (nI (v + 1))) :
    ∀ d w : Nat, w + d = 4 → wY_digest_24 post J (nI i) (nI v) st wy jo (d + 1) (sr_dg (fun n => wx (64 * i + n)) (4 * v + w)) (nI w) := by
  intro d
  induction d with
  | zero =>
    intro w hw
    obtain rfl : w = 4 := by omega
    exact br_t (nI_le (a := 4) (by omega) (by decide)) (nm_r (nI_1 v) hJ)
  | succ d ih =>
    intro w hw
    refine br_f (nI_ge (b := 4) (by omega) (by decide)) ?_
    refine sr_yread h hi hv (by omega) ?_
    have e : sr_dg (fun n => wx (64 * i + n)) (4 * v + w) + wx (4 * (16 * i + v) + w) * (4 * nI v + nI w + 1) = sr_dg (fun n => wx (64 * i + n)) (4 * v + (w + 1)) := by
      rw [sr_jy, nI_1, show 4 * (16 * i + v) + w = 64 * i + (4 * v + w) by omega]
      rfl
    exact nm_r e (nm_r (nI_1 w) (ih (w + 1) (by omega)))
theorem sr_yd15 {post : Int32 → Prop} {st jo wx wy : Nat → Int32} (h : sr_R st jo wx wy) {i : Nat} (hi : i < 2) (hp : post (sr_dg (fun n => wx (64 * i + n)) 64)) :
    ∀ d v : Nat, v + d = 16 → wY_digest_15 post (nI i) st wy jo (d + 1) (sr_dg (fun n => wx (64 * i + n)) (4 * v)) (nI v) := by
  intro d
  induction d with
  | zero =>
    intro v hv
    obtain rfl : v = 16 := by omega
    exact br_t (nI_le (a := 16) (by omega) (by decide)) hp
  | succ d ih =>
    intro v hv
    refine br_f (nI_ge (b := 16) (by omega) (by decide)) ⟨5, ?_⟩
    exact sr_yd24 h hi (by omega) (ih (v + 1) (by omega)) 4 0 rfl
theorem sr_ydg {post : Int32 → Prop} {st jo wx wy : Nat → Int32} (h : sr_R st jo wx wy) {i : Nat} (hi : i < 2) (hp : post (sr_dg (fun n => wx (64 * i + n)) 64)) : wpY_digest post (st, wy, jo) (nI i) :=
  br_f (nI_pos (by omega)) (br_t (nI_le (b := 1) (by omega) (by decide)) ⟨17, sr_yd15 h hi hp 16 0 rfl⟩)
