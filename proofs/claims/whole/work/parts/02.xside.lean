/-! the component's own methods, each with a general post -/
theorem sr_n0 : vp_nar .boolean 0 = 0 := by first | rfl | decide | decide +kernel
theorem sr_n1 : vp_nar .boolean 1 = 1 := by first | rfl | decide | decide +kernel
def sr_bp (p : Int32) : Prop := p < 0 ∨ nI 2 ≤ p
def sr_bv (v : Int32) : Prop := v < 0 ∨ nI 16 ≤ v
def sr_bw (w : Int32) : Prop := w < 0 ∨ nI 4 ≤ w
theorem sr_cp (p : Int32) : sr_bp p ∨ ∃ i, i < 2 ∧ p = nI i := by
  rcases pk_ix p (n := 2) (by decide) with h | h | h
  · exact Or.inl (Or.inl h)
  · exact Or.inl (Or.inr h)
  · exact Or.inr h
theorem sr_cv (p : Int32) : sr_bv p ∨ ∃ i, i < 16 ∧ p = nI i := by
  rcases pk_ix p (n := 16) (by decide) with h | h | h
  · exact Or.inl (Or.inl h)
  · exact Or.inl (Or.inr h)
  · exact Or.inr h
theorem sr_cw (p : Int32) : sr_bw p ∨ ∃ i, i < 4 ∧ p = nI i := by
  rcases pk_ix p (n := 4) (by decide) with h | h | h
  · exact Or.inl (Or.inl h)
  · exact Or.inl (Or.inr h)
  · exact Or.inr h
def sr_bpg (p v : Int32) : Prop := sr_bp p ∨ sr_bv v
theorem sr_cpg (p v : Int32) : sr_bpg p v ∨ ∃ i j, i < 2 ∧ j < 16 ∧ p = nI i ∧ v = nI j := by
  rcases sr_cp p with h | ⟨i, hi, e⟩
  · exact Or.inl (Or.inl h)
  · rcases sr_cv v with h | ⟨j, hj, f⟩
    · exact Or.inl (Or.inr h)
    · exact Or.inr ⟨i, j, hi, hj, e, f⟩
theorem sr_xpr1 {post : Int32 → Prop} {i : Nat} (hi : i < 2) (h : post 1) : wpX_isProcess post (nI i) :=
  br_f (nI_pos (by omega)) (br_f (nI_ge (b := 2) hi (by decide)) h)
theorem sr_xpr0 {post : Int32 → Prop} {p : Int32} (hb : sr_bp p) (h : post 0) : wpX_isProcess post p := by
  by_cases c : p < 0
  · exact br_t c h
  · exact br_f c (br_t (hb.resolve_left c) h)
theorem sr_xpn1 {post : Int32 → Prop} {i : Nat} (hi : i < 16) (h : post 1) : wpX_isPageNumber post (nI i) :=
  br_f (nI_pos (by omega)) (br_f (nI_ge (b := 16) hi (by decide)) h)
theorem sr_xpn0 {post : Int32 → Prop} {p : Int32} (hb : sr_bv p) (h : post 0) : wpX_isPageNumber post p := by
  by_cases c : p < 0
  · exact br_t c h
  · exact br_f c (br_t (hb.resolve_left c) h)
theorem sr_xwo1 {post : Int32 → Prop} {i : Nat} (hi : i < 4) (h : post 1) : wpX_isWord post (nI i) :=
  br_f (nI_pos (by omega)) (br_f (nI_ge (b := 4) hi (by decide)) h)
theorem sr_xwo0 {post : Int32 → Prop} {p : Int32} (hb : sr_bw p) (h : post 0) : wpX_isWord post p := by
  by_cases c : p < 0
  · exact br_t c h
  · exact br_f c (br_t (hb.resolve_left c) h)
theorem sr_xpg1 {post : Int32 → Prop} {i j : Nat} (hi : i < 2) (hj : j < 16) (h : post 1) : wpX_isPage post (nI i) (nI j) := by
  unfold wpX_isPage
  refine sr_xpr1 hi ?_
  refine br_f sr_10 ?_
  refine sr_xpn1 hj ?_
  exact br_f sr_10 h
theorem sr_xpg0 {post : Int32 → Prop} {p v : Int32} (hb : sr_bpg p v) (h : post 0) : wpX_isPage post p v := by
  unfold wpX_isPage
  rcases sr_cp p with b | ⟨i, hi, rfl⟩
  · refine sr_xpr0 b ?_
    exact br_t rfl h
  · refine sr_xpr1 hi ?_
    refine br_f sr_10 ?_
    rcases hb with b | b
    · exfalso
      rcases b with b | b
      · exact nI_pos (by omega) b
      · exact nI_ge (b := 2) hi (by decide) b
    · refine sr_xpn0 b ?_
      exact br_t rfl h
theorem sr_xps {post : Int32 → Prop} {st wx jo : Nat → Int32} {i j : Nat} (hi : i < 2) (hj : j < 16) (h0 : st (16 * i + j) = 0 → post 0) (h1 : ¬ st (16 * i + j) = 0 → post 1) : wpX_isPresent post (st, wx, jo) (nI i) (nI j) := by
  unfold wpX_isPresent wpX_pageIndex
  dsimp only
  rw [sr_ix, nI_clamp (by omega)]
  exact ⟨vp_in_nI (by omega) (by decide), h0, h1⟩
/-! inUse -/
theorem sr_dec (a c : Nat) : nI a - nI c + (-1) = nI a - nI (c + 1) := by
  rw [← nI_1]
  generalize nI a = x
  generalize nI c = y
  grind
theorem sr_s0 (a : Nat) : nI a - nI 0 = nI a := by
  rw [nI_0]
  generalize nI a = x
  grind
theorem sr_xu30 {post : Int32 → Prop} {st wx jo : Nat → Int32} (A : Nat) (h : post (nI A - nI (sr_cnt jo 16))) : ∀ d j : Nat, j + d = 16 → wX_inUse_30 post st wx jo (d + 1) (nI A - nI (sr_cnt jo j)) (nI j) := by
  intro d
  induction d with
  | zero =>
    intro j hj
    obtain rfl : j = 16 := by omega
    exact br_t (nI_le (a := 16) (by omega) (by decide)) h
  | succ d ih =>
    intro j hj
    refine br_f (nI_ge (b := 16) (by omega) (by decide)) ⟨vp_in_nI (by omega) (by decide), ?_⟩
    have q := ih (j + 1) (by omega)
    rw [sr_cs] at q
    rw [nI_clamp (by omega)]
    refine br_c (fun z => nm_r (nI_1 j) ?_) (fun z => nm_r (sr_dec A _) (nm_r (nI_1 j) ?_))
    · rw [sr_b0 z] at q
      exact q
    · rw [sr_b1 z] at q
      exact q
theorem sr_xu4 {post : Int32 → Prop} {st wx jo : Nat → Int32} (h : post (nI (sr_cnt st 32) - nI (sr_cnt jo 16))) : ∀ d j : Nat, j + d = 32 → wX_inUse_4 post st wx jo (d + 1) (nI (sr_cnt st j)) (nI j) := by
  intro d
  induction d with
  | zero =>
    intro j hj
    obtain rfl : j = 32 := by omega
    have q := sr_xu30 (wx := wx) (st := st) (sr_cnt st 32) h 16 0 rfl
    rw [show sr_cnt jo 0 = 0 from rfl, sr_s0] at q
    exact br_t (nI_le (a := 32) (by omega) (by decide)) ⟨17, q⟩
  | succ d ih =>
    intro j hj
    refine br_f (nI_ge (b := 32) (by omega) (by decide)) ⟨vp_in_nI (by omega) (by decide), ?_⟩
    have q := ih (j + 1) (by omega)
    rw [sr_cs] at q
    rw [nI_clamp (by omega)]
    refine br_c (fun z => nm_r (nI_1 j) ?_) (fun z => nm_r (nI_1 _) (nm_r (nI_1 j) ?_))
    · rw [sr_b0 z] at q
      exact q
    · rw [sr_b1 z] at q
      exact q
theorem sr_xuse {post : Int32 → Prop} {st wx jo : Nat → Int32} (h : post (nI (sr_cnt st 32) - nI (sr_cnt jo 16))) : wpX_inUse post (st, wx, jo) :=
  ⟨33, sr_xu4 h 32 0 rfl⟩
theorem sr_full {st jo : Nat → Int32} (hJ : sr_J st jo) (hN : sr_N st jo) :
    (nI (sr_cnt st 32) - nI (sr_cnt jo 16) = 16 ∧ ¬ nI (sr_cnt st 32) - nI (sr_cnt jo 16) < 16) ∨
    (¬ nI (sr_cnt st 32) - nI (sr_cnt jo 16) = 16 ∧ nI (sr_cnt st 32) - nI (sr_cnt jo 16) < 16 ∧ sr_cnt st 32 < 16 + sr_cnt jo 16) := by
  obtain ⟨m, h1, h2, h3⟩ := sr_use hJ hN
  rw [h2]
  by_cases e : m = 16
  · subst e
    exact Or.inl ⟨rfl, nI_nlt (b := 16) (Nat.le_refl 16) (by decide)⟩
  · refine Or.inr ⟨fun z => e ?_, nI_lt (b := 16) (by omega) (by decide), by omega⟩
    exact (nI_eq (b := 16) (by omega) (by decide)).mp z
/-! makeAbsent, copyWords, sharePage -/
theorem sr_xa28 {post : SX → Prop} {st wx jo : Nat → Int32} {b : Nat} (hb : b + 4 ≤ 128) (h : post (st, sr_fill wx b 4 (fun _ => 0), jo)) : ∀ d w : Nat, w + d = 4 → wX_makeAbsent_28 post (nI b) (d + 1) (nI w) st (sr_fill wx b w (fun _ => 0)) jo := by
  intro d
  induction d with
  | zero =>
    intro w hw
    obtain rfl : w = 4 := by omega
    exact br_t (nI_le (a := 4) (by omega) (by decide)) h
  | succ d ih =>
    intro w hw
    have e : upd (sr_fill wx b w (fun _ => 0)) (nI b + nI w).toNatClampNeg 0 = sr_fill wx b (w + 1) (fun _ => 0) := by
      rw [nI_add, nI_clamp (by omega)]
      exact sr_fs wx b w (fun _ => 0)
    exact br_f (nI_ge (b := 4) (by omega) (by decide)) ⟨pk_in (b + w) 128 (by omega) (nI_add b w), nm_r e (nm_r (nI_1 w) (ih (w + 1) (by omega)))⟩
theorem sr_xab {post : SX → Prop} {st wx jo : Nat → Int32} {i j : Nat} (hi : i < 2) (hj : j < 16) (h : post (upd st (16 * i + j) 0, sr_fill wx (4 * (16 * i + j)) 4 (fun _ => 0), upd jo j 0)) : wpX_makeAbsent post (st, wx, jo) (nI i) (nI j) := by
  have q := sr_xa28 (b := 4 * (16 * i + j)) (by omega) h 4 0 rfl
  rw [sr_f0] at q
  have e : (nI i * 16 + nI j) * 4 + 0 = nI (4 * (16 * i + j)) := by
    rw [sr_ix]
    exact sr_jx _ 0
  unfold wpX_makeAbsent wpX_pageIndex wpX_wordIndex
  dsimp only
  rw [e]
  refine ⟨pk_in (16 * i + j) 32 (by omega) (sr_ix i j), nm_r (e' := upd st (16 * i + j) 0) ?_ ⟨vp_in_nI hj (by decide), nm_r (e' := upd jo j 0) ?_ ⟨5, q⟩⟩⟩
  · rw [sr_ix, nI_clamp (by omega)]
  · rw [nI_clamp (by omega), sr_n0]
theorem sr_xc20 {post : SX → Prop} {st wx jo : Nat → Int32} {s t : Nat} (hs : s + 4 ≤ 128) (ht : t + 4 ≤ 128) (hd : s = t ∨ s + 4 ≤ t ∨ t + 4 ≤ s) (h : post (st, sr_fill wx t 4 (fun w => wx (s + w)), jo)) : ∀ d w : Nat, w + d = 4 → wX_copyWords_20 post (nI s) (nI t) (d + 1) (nI w) st (sr_fill wx t w (fun w => wx (s + w))) jo := by
  intro d
  induction d with
  | zero =>
    intro w hw
    obtain rfl : w = 4 := by omega
    exact br_t (nI_le (a := 4) (by omega) (by decide)) h
  | succ d ih =>
    intro w hw
    have e : upd (sr_fill wx t w (fun w => wx (s + w))) (nI t + nI w).toNatClampNeg (sr_fill wx t w (fun w => wx (s + w)) (nI s + nI w).toNatClampNeg) = sr_fill wx t (w + 1) (fun w => wx (s + w)) := by
      rw [nI_add, nI_add, nI_clamp (by omega), nI_clamp (by omega), sr_fout (by omega)]
      exact sr_fs wx t w (fun w => wx (s + w))
    exact br_f (nI_ge (b := 4) (by omega) (by decide)) ⟨pk_in (s + w) 128 (by omega) (nI_add s w), pk_in (t + w) 128 (by omega) (nI_add t w), nm_r e (nm_r (nI_1 w) (ih (w + 1) (by omega)))⟩
theorem sr_xcw {post : SX → Prop} {st wx jo : Nat → Int32} {i j k l : Nat} (hi : i < 2) (hj : j < 16) (hk : k < 2) (hl : l < 16) (h : post (st, sr_fill wx (4 * (16 * k + l)) 4 (fun w => wx (4 * (16 * i + j) + w)), jo)) : wpX_copyWords post (st, wx, jo) (nI i) (nI j) (nI k) (nI l) := by
  have q := sr_xc20 (s := 4 * (16 * i + j)) (t := 4 * (16 * k + l)) (by omega) (by omega) (by omega) h 4 0 rfl
  rw [sr_f0] at q
  have e1 : (nI i * 16 + nI j) * 4 + 0 = nI (4 * (16 * i + j)) := by
    rw [sr_ix]
    exact sr_jx _ 0
  have e2 : (nI k * 16 + nI l) * 4 + 0 = nI (4 * (16 * k + l)) := by
    rw [sr_ix]
    exact sr_jx _ 0
  unfold wpX_copyWords wpX_wordIndex
  dsimp only
  rw [e1, e2]
  exact ⟨5, q⟩
theorem sr_xsh {post : SX → Prop} {st wx jo : Nat → Int32} {i q j : Nat} (hiq : i + q = 1) (hj : j < 16) (h : post (upd st (16 * q + j) (st (16 * i + j)), sr_fill wx (4 * (16 * q + j)) 4 (fun w => wx (4 * (16 * i + j) + w)), upd jo j 1)) : wpX_sharePage post (st, wx, jo) (nI i) (nI j) := by
  unfold wpX_sharePage
  dsimp only
  refine nm_r (sr_oth hiq) ?_
  refine sr_xcw (by omega) hj (by omega) hj ?_
  unfold wpX_pageIndex
  dsimp only
  refine ⟨pk_in (16 * i + j) 32 (by omega) (sr_ix i j), pk_in (16 * q + j) 32 (by omega) (sr_ix q j), nm_r (e' := upd st (16 * q + j) (st (16 * i + j))) ?_ ⟨vp_in_nI hj (by decide), nm_r (e' := upd jo j 1) ?_ h⟩⟩
  · rw [sr_ix, sr_ix, nI_clamp (by omega), nI_clamp (by omega)]
  · rw [nI_clamp (by omega), sr_n1]
/-! present -/
/-- how many of the first n pages of process i are present -/
def sr_pc (st : Nat → Int32) (i n : Nat) : Nat := sr_cnt (fun v => st (16 * i + v)) n
theorem sr_pcs (st : Nat → Int32) (i n : Nat) : sr_pc st i (n + 1) = sr_pc st i n + sr_b (st (16 * i + n)) := rfl
theorem sr_pce {st st' : Nat → Int32} {i : Nat} (n : Nat) (h : ∀ v, v < n → st' (16 * i + v) = st (16 * i + v)) : sr_pc st' i n = sr_pc st i n := sr_cext n h
theorem sr_pc2 (st : Nat → Int32) : sr_pc st 0 16 + sr_pc st 1 16 = sr_cnt st 32 := by
  have h : sr_cnt st 32 = sr_cnt st 16 + sr_cnt (fun i => st (16 + i)) 16 := sr_cadd st 16 16
  have h0 : sr_pc st 0 16 = sr_cnt st 16 := sr_cext 16 (fun v _ => congrArg st (by omega))
  have h1 : sr_pc st 1 16 = sr_cnt (fun i => st (16 + i)) 16 := sr_cext 16 (fun v _ => congrArg st (by omega))
  omega
theorem sr_xp13 {post : Int32 → Prop} {st wx jo : Nat → Int32} {i : Nat} (hi : i < 2) (h : post (nI (sr_pc st i 16))) : ∀ d j : Nat, j + d = 16 → wX_present_13 post (nI i) st wx jo (d + 1) (nI (sr_pc st i j)) (nI j) := by
  intro d
  induction d with
  | zero =>
    intro j hj
    obtain rfl : j = 16 := by omega
    exact br_t (nI_le (a := 16) (by omega) (by decide)) h
  | succ d ih =>
    intro j hj
    have q := ih (j + 1) (by omega)
    rw [sr_pcs] at q
    refine br_f (nI_ge (b := 16) (by omega) (by decide)) ?_
    refine sr_xps hi (by omega) (fun z => ?_) (fun z => ?_)
    · rw [sr_b0 z] at q
      exact br_t rfl (nm_r (nI_1 j) q)
    · rw [sr_b1 z] at q
      exact br_f sr_10 (nm_r (nI_1 _) (nm_r (nI_1 j) q))
theorem sr_xpres {post : Int32 → Prop} {st wx jo : Nat → Int32} {i : Nat} (hi : i < 2) (h : post (nI (sr_pc st i 16))) : wpX_present post (st, wx, jo) (nI i) := by
  unfold wpX_present
  dsimp only
  refine sr_xpr1 hi ?_
  exact br_f sr_10 ⟨17, sr_xp13 hi h 16 0 rfl⟩
/-! digest -/
theorem sr_dgs (f : Nat → Int32) (n : Nat) : sr_dg f (n + 1) = sr_dg f n + f n * nI (n + 1) := rfl
theorem sr_xd21 {post : Int32 → Prop} {st wx jo : Nat → Int32} {b : Nat} (hb : b + 64 ≤ 128) (h : post (sr_dg (fun n => wx (b + n)) 64)) : ∀ d j : Nat, j + d = 64 → wX_digest_21 post (nI b) st wx jo (d + 1) (sr_dg (fun n => wx (b + n)) j) (nI j) := by
  intro d
  induction d with
  | zero =>
    intro j hj
    obtain rfl : j = 64 := by omega
    exact br_t (nI_le (a := 64) (by omega) (by decide)) h
  | succ d ih =>
    intro j hj
    have e : sr_dg (fun n => wx (b + n)) j + wx (nI b + nI j).toNatClampNeg * (nI j + 1) = sr_dg (fun n => wx (b + n)) (j + 1) := by
      rw [nI_add, nI_clamp (by omega), nI_1]
      rfl
    exact br_f (nI_ge (b := 64) (by omega) (by decide)) ⟨pk_in (b + j) 128 (by omega) (nI_add b j), nm_r e (nm_r (nI_1 j) (ih (j + 1) (by omega)))⟩
theorem sr_xdg {post : Int32 → Prop} {st wx jo : Nat → Int32} {i : Nat} (hi : i < 2) (h : post (sr_dg (fun n => wx (64 * i + n)) 64)) : wpX_digest post (st, wx, jo) (nI i) := by
  have q := sr_xd21 (st := st) (jo := jo) (b := 64 * i) (by omega) h 64 0 rfl
  have e : (nI i * 16 + 0) * 4 + 0 = nI (64 * i) := by
    have e1 : nI i * 16 + 0 = nI (16 * i) := sr_ix i 0
    have e2 : nI (16 * i) * 4 + 0 = nI (4 * (16 * i)) := sr_jx _ 0
    rw [e1, e2]
    exact congrArg nI (by omega)
  unfold wpX_digest wpX_wordIndex
  dsimp only
  rw [e]
  refine sr_xpr1 hi ?_
  exact br_f sr_10 ⟨65, q⟩
