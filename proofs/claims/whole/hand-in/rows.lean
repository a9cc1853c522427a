section
theorem pk_us {f : Nat → Int32} {k : Nat} {x : Int32} : upd f k x k = x := if_pos rfl
theorem pk_un {f : Nat → Int32} {k j : Nat} {x : Int32} (h : j ≠ k) : upd f k x j = f j := if_neg h
theorem pk_sub {a b : Nat} (h : b ≤ a) : nI a - nI b = nI (a - b) := by
  obtain ⟨c, rfl⟩ : ∃ c, a = c + b := ⟨a - b, by omega⟩
  rw [← nI_add, Int32.add_sub_cancel, Nat.add_sub_cancel]
theorem pk_m1 (n : Nat) : nI (n + 1) + (-1) = nI n := by
  rw [← nI_1, Int32.add_assoc, show (1 : Int32) + (-1) = 0 from rfl, Int32.add_zero]
theorem pk_mul (a b : Nat) : nI a * nI b = nI (a * b) := (Int32.ofNat_mul a b).symm
theorem pk_ix (x : Int32) {n : Nat} (hn : n < 2 ^ 31) : x < 0 ∨ nI n ≤ x ∨ ∃ j : Nat, j < n ∧ x = nI j := by
  by_cases h : x < 0
  · exact Or.inl h
  · obtain ⟨j, hj, rfl⟩ := nI_of h
    by_cases h2 : j < n
    · exact Or.inr (Or.inr ⟨j, h2, rfl⟩)
    · exact Or.inr (Or.inl (nI_le (by omega) hj))
theorem pk_le {x y : Int32} {A B : Prop} (a b : Nat) (f : a ≤ b → A) (g : b < a → B) (hx : x = nI a := by rfl) (hy : y = nI b := by rfl) (ha : a < 2 ^ 31 := by omega) (hb : b < 2 ^ 31 := by omega) : (x ≤ y → A) ∧ (¬ x ≤ y → B) := by
  subst hx hy
  rw [nI_leI ha hb]
  exact ⟨f, fun z => g (by omega)⟩
theorem pk_lt {x y : Int32} {A B : Prop} (a b : Nat) (f : a < b → A) (g : b ≤ a → B) (hx : x = nI a := by rfl) (hy : y = nI b := by rfl) (ha : a < 2 ^ 31 := by omega) (hb : b < 2 ^ 31 := by omega) : (x < y → A) ∧ (¬ x < y → B) := by
  subst hx hy
  rw [nI_ltI ha hb]
  exact ⟨f, fun z => g (by omega)⟩
theorem pk_eq {x y : Int32} {A B : Prop} (a b : Nat) (f : a = b → A) (g : a ≠ b → B) (hx : x = nI a := by rfl) (hy : y = nI b := by rfl) (ha : a < 2 ^ 31 := by omega) (hb : b < 2 ^ 31 := by omega) : (x = y → A) ∧ (¬ x = y → B) := by
  subst hx hy
  rw [nI_eq ha hb]
  exact ⟨f, g⟩
theorem pk_in {x : Int32} (n N : Nat) (h : n < N) (hx : x = nI n := by rfl) (hN : N < 2 ^ 31 := by omega) : vp_in x N := by
  subst hx
  exact vp_in_nI h hN
theorem pk_cl {x : Int32} (n : Nat) (hx : x = nI n := by rfl) (h : n < 2 ^ 31 := by omega) : x.toNatClampNeg = n := by
  subst hx
  exact nI_clamp h
def sr_b (x : Int32) : Nat := if x = 0 then 0 else 1
theorem sr_b0 {x : Int32} (h : x = 0) : sr_b x = 0 := if_pos h
theorem sr_b1 {x : Int32} (h : ¬ x = 0) : sr_b x = 1 := if_neg h
theorem sr_bl (x : Int32) : sr_b x ≤ 1 := by
  by_cases h : x = 0
  · rw [sr_b0 h]; omega
  · rw [sr_b1 h]; omega
/-- how many of the first n are not zero -/
def sr_cnt (f : Nat → Int32) : Nat → Nat
  | 0 => 0
  | n + 1 => sr_cnt f n + sr_b (f n)
theorem sr_cs (f : Nat → Int32) (n : Nat) : sr_cnt f (n + 1) = sr_cnt f n + sr_b (f n) := rfl
theorem sr_cle (f : Nat → Int32) (n : Nat) : sr_cnt f n ≤ n := by
  induction n with
  | zero => exact Nat.le_refl 0
  | succ n ih =>
    have := sr_bl (f n)
    rw [sr_cs]; omega
theorem sr_cext {f g : Nat → Int32} (n : Nat) (h : ∀ i, i < n → f i = g i) : sr_cnt f n = sr_cnt g n := by
  induction n with
  | zero => rfl
  | succ n ih => rw [sr_cs, sr_cs, ih (fun i hi => h i (by omega)), h n (by omega)]
theorem sr_cout {f : Nat → Int32} {k : Nat} {x : Int32} (n : Nat) (h : n ≤ k) : sr_cnt (upd f k x) n = sr_cnt f n :=
  sr_cext n (fun i hi => pk_un (by omega))
theorem sr_cupd {f : Nat → Int32} {k : Nat} {x : Int32} (n : Nat) (h : k < n) : sr_cnt (upd f k x) n + sr_b (f k) = sr_cnt f n + sr_b x := by
  induction n with
  | zero => omega
  | succ n ih =>
    rw [sr_cs, sr_cs]
    by_cases e : n = k
    · subst e
      rw [sr_cout n (Nat.le_refl n), pk_us]; omega
    · rw [pk_un e]
      have := ih (by omega)
      omega
theorem sr_cadd (f : Nat → Int32) (m n : Nat) : sr_cnt f (m + n) = sr_cnt f m + sr_cnt (fun i => f (m + i)) n := by
  induction n with
  | zero => rfl
  | succ n ih =>
    show sr_cnt f (m + n) + sr_b (f (m + n)) = sr_cnt f m + (sr_cnt (fun i => f (m + i)) n + sr_b (f (m + n)))
    omega
theorem sr_cmono {f g : Nat → Int32} (n : Nat) (h : ∀ i, i < n → ¬ f i = 0 → ¬ g i = 0) : sr_cnt f n ≤ sr_cnt g n := by
  induction n with
  | zero => exact Nat.le_refl 0
  | succ n ih =>
    have i1 := ih (fun i hi => h i (by omega))
    rw [sr_cs, sr_cs]
    by_cases z : f n = 0
    · rw [sr_b0 z]; omega
    · rw [sr_b1 z, sr_b1 (h n (by omega) z)]; omega
/-- f with n cells from b on written over by g -/
def sr_fill (f : Nat → Int32) (b n : Nat) (g : Nat → Int32) : Nat → Int32 := fun i => if b ≤ i ∧ i < b + n then g (i - b) else f i
theorem sr_fin {f g : Nat → Int32} {b n : Nat} (j : Nat) (h : j < n) : sr_fill f b n g (b + j) = g j := by
  show (if b ≤ b + j ∧ b + j < b + n then g (b + j - b) else f (b + j)) = g j
  rw [if_pos (by omega), Nat.add_sub_cancel_left]
theorem sr_fout {f g : Nat → Int32} {b n i : Nat} (h : i < b ∨ b + n ≤ i) : sr_fill f b n g i = f i := if_neg (by omega)
theorem sr_f0 (f : Nat → Int32) (b : Nat) (g : Nat → Int32) : sr_fill f b 0 g = f := funext fun i => if_neg (by omega)
theorem sr_fs (f : Nat → Int32) (b n : Nat) (g : Nat → Int32) : upd (sr_fill f b n g) (b + n) (g n) = sr_fill f b (n + 1) g := by
  funext i
  by_cases e : i = b + n
  · subst e; rw [pk_us, sr_fin n (by omega)]
  · rw [pk_un e]
    by_cases h : b ≤ i ∧ i < b + n
    · obtain ⟨j, rfl⟩ : ∃ j, i = b + j := ⟨i - b, by omega⟩
      rw [sr_fin j (by omega), sr_fin j (by omega)]
    · rw [sr_fout (by omega), sr_fout (by omega)]
theorem sr_ff (f : Nat → Int32) (b n : Nat) (g g' : Nat → Int32) : sr_fill (sr_fill f b n g) b n g' = sr_fill f b n g' := by
  funext i
  by_cases h : b ≤ i ∧ i < b + n
  · obtain ⟨j, rfl⟩ : ∃ j, i = b + j := ⟨i - b, by omega⟩
    rw [sr_fin j (by omega), sr_fin j (by omega)]
  · rw [sr_fout (by omega), sr_fout (by omega), sr_fout (by omega)]
theorem sr_fe {f g g' : Nat → Int32} {b n : Nat} (h : ∀ j, j < n → g j = g' j) : sr_fill f b n g = sr_fill f b n g' := by
  funext i
  by_cases q : b ≤ i ∧ i < b + n
  · obtain ⟨j, rfl⟩ : ∃ j, i = b + j := ⟨i - b, by omega⟩
    rw [sr_fin j (by omega), sr_fin j (by omega), h j (by omega)]
  · rw [sr_fout (by omega), sr_fout (by omega)]
theorem sr_uu (f : Nat → Int32) (k : Nat) (x y : Int32) : upd (upd f k x) k y = upd f k y := by
  funext i
  by_cases e : i = k
  · subst e; rw [pk_us, pk_us]
  · rw [pk_un e, pk_un e, pk_un e]
theorem sr_ui {f : Nat → Int32} {k : Nat} {x : Int32} (h : f k = x) : upd f k x = f := by
  funext i
  by_cases e : i = k
  · subst e; rw [pk_us, h]
  · rw [pk_un e]
theorem sr_unn {f : Nat → Int32} {k i : Nat} {x : Int32} (hx : ¬ x = 0) (h : ¬ f i = 0) : ¬ upd f k x i = 0 := by
  by_cases e : i = k
  · subst e; rw [pk_us]; exact hx
  · rw [pk_un e]; exact h
/-! the relation over states, joined, and the words of either side -/
def sr_S (st : Nat → Int32) : Prop := ∀ k, k < 32 → st k = 0 ∨ st k = 1 ∨ st k = 2
def sr_J (st jo : Nat → Int32) : Prop := ∀ v, v < 16 → jo v = 0 ∨ (jo v = 1 ∧ ¬ st v = 0 ∧ ¬ st (16 + v) = 0)
def sr_N (st jo : Nat → Int32) : Prop := sr_cnt st 32 ≤ 16 + sr_cnt jo 16
def sr_W (st wx wy : Nat → Int32) : Prop := ∀ k w, k < 32 → w < 4 → (st k = 0 → wx (4 * k + w) = 0) ∧ (¬ st k = 0 → wx (4 * k + w) = wy (4 * k + w))
def sr_R (st jo wx wy : Nat → Int32) : Prop := sr_S st ∧ sr_J st jo ∧ sr_N st jo ∧ sr_W st wx wy
theorem sr_jp {st jo : Nat → Int32} (h : sr_J st jo) {p v : Nat} (hp : p < 2) (hv : v < 16) : jo v = 0 ∨ (jo v = 1 ∧ ¬ st (16 * p + v) = 0) := by
  rcases h v hv with a | ⟨a, b, c⟩
  · exact Or.inl a
  · refine Or.inr ⟨a, ?_⟩
    by_cases e : p = 0
    · rw [show 16 * p + v = v by omega]; exact b
    · rw [show 16 * p + v = 16 + v by omega]; exact c
theorem sr_jb {st jo : Nat → Int32} (h : sr_J st jo) {p v : Nat} (hp : p < 2) (hv : v < 16) : sr_b (jo v) ≤ sr_b (st (16 * p + v)) := by
  rcases sr_jp h hp hv with a | ⟨_, b⟩
  · rw [sr_b0 a]; omega
  · rw [sr_b1 b]; exact sr_bl _
theorem sr_jz {st jo : Nat → Int32} (h : sr_J st jo) {p v : Nat} (hp : p < 2) (hv : v < 16) (hz : st (16 * p + v) = 0) : jo v = 0 := by
  rcases sr_jp h hp hv with a | ⟨_, b⟩
  · exact a
  · exact absurd hz b
theorem sr_use {st jo : Nat → Int32} (hJ : sr_J st jo) (hN : sr_N st jo) : ∃ m, m ≤ 16 ∧ nI (sr_cnt st 32) - nI (sr_cnt jo 16) = nI m ∧ m + sr_cnt jo 16 = sr_cnt st 32 := by
  have h1 : sr_cnt jo 16 ≤ sr_cnt st 16 := sr_cmono 16 (fun i hi z => by
    rcases hJ i hi with a | ⟨_, b, _⟩
    · exact absurd a z
    · exact b)
  have h2 : sr_cnt st 32 = sr_cnt st 16 + sr_cnt (fun i => st (16 + i)) 16 := sr_cadd st 16 16
  have h3 : sr_cnt st 32 ≤ 16 + sr_cnt jo 16 := hN
  exact ⟨sr_cnt st 32 - sr_cnt jo 16, by omega, pk_sub (by omega), by omega⟩
theorem sr_Su {st : Nat → Int32} {k : Nat} {x : Int32} (h : sr_S st) (hx : x = 0 ∨ x = 1 ∨ x = 2) : sr_S (upd st k x) := fun i hi => by
  by_cases e : i = k
  · subst e; rw [pk_us]; exact hx
  · rw [pk_un e]; exact h i hi
theorem sr_10 : ¬ (1 : Int32) = 0 := by decide
theorem sr_20 : ¬ (2 : Int32) = 0 := by decide
/-- an absent page comes -/
theorem sr_come {st jo wx wy : Nat → Int32} {p v : Nat} (h : sr_R st jo wx wy) (hp : p < 2) (hv : v < 16) (hz : st (16 * p + v) = 0) (hm : sr_cnt st 32 < 16 + sr_cnt jo 16) :
    sr_R (upd st (16 * p + v) 1) jo wx (sr_fill wy (4 * (16 * p + v)) 4 (fun _ => 0)) := by
  obtain ⟨hS, hJ, hN, hW⟩ := h
  refine ⟨sr_Su hS (Or.inr (Or.inl rfl)), ?_, ?_, ?_⟩
  · intro u hu
    rcases hJ u hu with a | ⟨a, b, c⟩
    · exact Or.inl a
    · exact Or.inr ⟨a, sr_unn sr_10 b, sr_unn sr_10 c⟩
  · have e := sr_cupd (f := st) (k := 16 * p + v) (x := 1) 32 (by omega)
    rw [sr_b0 hz, sr_b1 sr_10] at e
    show sr_cnt (upd st (16 * p + v) 1) 32 ≤ 16 + sr_cnt jo 16
    omega
  · intro k w hk hw
    by_cases e : k = 16 * p + v
    · subst e
      rw [pk_us]
      refine ⟨fun z => absurd z sr_10, fun _ => ?_⟩
      rw [sr_fin w hw, (hW _ w hk hw).1 hz]
    · rw [pk_un e, sr_fout (by omega)]
      exact hW k w hk hw
/-- a sharing ends -/
theorem sr_lone {st jo wx wy : Nat → Int32} {v : Nat} (h : sr_R st jo wx wy) (hv : v < 16) (hj : ¬ jo v = 0) (hm : sr_cnt st 32 < 16 + sr_cnt jo 16) :
    sr_R st (upd jo v 0) wx wy := by
  obtain ⟨hS, hJ, hN, hW⟩ := h
  refine ⟨hS, ?_, ?_, hW⟩
  · intro u hu
    by_cases e : u = v
    · subst e; exact Or.inl pk_us
    · rw [pk_un e]; exact hJ u hu
  · have e := sr_cupd (f := jo) (k := v) (x := 0) 16 hv
    rw [sr_b1 hj, sr_b0 rfl] at e
    show sr_cnt st 32 ≤ 16 + sr_cnt (upd jo v 0) 16
    omega
/-- a page goes -/
theorem sr_gone {st jo wx wy : Nat → Int32} {p v : Nat} (h : sr_R st jo wx wy) (hp : p < 2) (hv : v < 16) :
    sr_R (upd st (16 * p + v) 0) (upd jo v 0) (sr_fill wx (4 * (16 * p + v)) 4 (fun _ => 0)) wy := by
  obtain ⟨hS, hJ, hN, hW⟩ := h
  refine ⟨sr_Su hS (Or.inl rfl), ?_, ?_, ?_⟩
  · intro u hu
    by_cases e : u = v
    · subst e; exact Or.inl pk_us
    · rw [pk_un e]
      rcases hJ u hu with a | ⟨a, b, c⟩
      · exact Or.inl a
      · refine Or.inr ⟨a, ?_, ?_⟩
        · rw [pk_un (by omega)]; exact b
        · rw [pk_un (by omega)]; exact c
  · have e1 := sr_cupd (f := st) (k := 16 * p + v) (x := 0) 32 (by omega)
    have e2 := sr_cupd (f := jo) (k := v) (x := 0) 16 hv
    have e3 := sr_jb hJ hp hv
    have e4 : sr_cnt st 32 ≤ 16 + sr_cnt jo 16 := hN
    show sr_cnt (upd st (16 * p + v) 0) 32 ≤ 16 + sr_cnt (upd jo v 0) 16
    omega
  · intro k w hk hw
    by_cases e : k = 16 * p + v
    · subst e
      rw [pk_us]
      exact ⟨fun _ => sr_fin w hw, fun z => absurd rfl z⟩
    · rw [pk_un e, sr_fout (by omega)]
      exact hW k w hk hw
/-- a present page gets a new mark -/
theorem sr_mark {st jo wx wy : Nat → Int32} {k : Nat} {x : Int32} (h : sr_R st jo wx wy) (hk : k < 32) (hz : ¬ st k = 0) (hx : x = 1 ∨ x = 2) :
    sr_R (upd st k x) jo wx wy := by
  obtain ⟨hS, hJ, hN, hW⟩ := h
  have h0 : ¬ x = 0 := by
    rcases hx with e | e
    · rw [e]; exact sr_10
    · rw [e]; exact sr_20
  refine ⟨sr_Su hS (Or.inr hx), ?_, ?_, ?_⟩
  · intro u hu
    rcases hJ u hu with a | ⟨a, b, c⟩
    · exact Or.inl a
    · exact Or.inr ⟨a, sr_unn h0 b, sr_unn h0 c⟩
  · have e1 := sr_cupd (f := st) (k := k) (x := x) 32 hk
    rw [sr_b1 hz, sr_b1 h0] at e1
    have e4 : sr_cnt st 32 ≤ 16 + sr_cnt jo 16 := hN
    show sr_cnt (upd st k x) 32 ≤ 16 + sr_cnt jo 16
    omega
  · intro j w hj hw
    by_cases e : j = k
    · subst e
      rw [pk_us]
      exact ⟨fun z => absurd z h0, fun _ => (hW _ w hj hw).2 hz⟩
    · rw [pk_un e]
      exact hW j w hj hw
/-- a word of a present page is written on both sides -/
theorem sr_word {st jo wx wy : Nat → Int32} {k w : Nat} {x : Int32} (h : sr_R st jo wx wy) (hw : w < 4) (hz : ¬ st k = 0) :
    sr_R st jo (upd wx (4 * k + w) x) (upd wy (4 * k + w) x) := by
  obtain ⟨hS, hJ, hN, hW⟩ := h
  refine ⟨hS, hJ, hN, ?_⟩
  intro j u hj hu
  by_cases e : 4 * j + u = 4 * k + w
  · obtain rfl : j = k := by omega
    obtain rfl : u = w := by omega
    rw [pk_us, pk_us]
    exact ⟨fun z => absurd z hz, fun _ => rfl⟩
  · rw [pk_un e, pk_un e]
    exact hW j u hj hu
/-- what the reference holds of an absent page doesn't count -/
theorem sr_any {st jo wx wy g : Nat → Int32} {k : Nat} (h : sr_R st jo wx wy) (hz : st k = 0) :
    sr_R st jo wx (sr_fill wy (4 * k) 4 g) := by
  obtain ⟨hS, hJ, hN, hW⟩ := h
  refine ⟨hS, hJ, hN, ?_⟩
  intro j u hj hu
  by_cases e : j = k
  · subst e
    exact ⟨(hW j u hj hu).1, fun z => absurd hz z⟩
  · rw [sr_fout (by omega)]
    exact hW j u hj hu
/-- a page is shared with the other process -/
theorem sr_share {st jo wx wy : Nat → Int32} {p q v : Nat} (h : sr_R st jo wx wy) (hpq : p + q = 1) (hv : v < 16) (hz : ¬ st (16 * p + v) = 0) :
    sr_R (upd st (16 * q + v) (st (16 * p + v))) (upd jo v 1) (sr_fill wx (4 * (16 * q + v)) 4 (fun w => wx (4 * (16 * p + v) + w))) (sr_fill wy (4 * (16 * q + v)) 4 (fun w => wy (4 * (16 * p + v) + w))) := by
  obtain ⟨hS, hJ, hN, hW⟩ := h
  have hb : ∀ i, (i = 16 * p + v ∨ i = 16 * q + v) → ¬ upd st (16 * q + v) (st (16 * p + v)) i = 0 := by
    intro i hi
    rcases hi with e | e
    · subst e; exact sr_unn hz hz
    · subst e; rw [pk_us]; exact hz
  refine ⟨sr_Su hS (hS _ (by omega)), ?_, ?_, ?_⟩
  · intro u hu
    by_cases e : u = v
    · subst e
      exact Or.inr ⟨pk_us, hb _ (by omega), hb _ (by omega)⟩
    · rw [pk_un e]
      rcases hJ u hu with a | ⟨a, b, c⟩
      · exact Or.inl a
      · exact Or.inr ⟨a, sr_unn hz b, sr_unn hz c⟩
  · have e1 := sr_cupd (f := st) (k := 16 * q + v) (x := st (16 * p + v)) 32 (by omega)
    have e2 := sr_cupd (f := jo) (k := v) (x := 1) 16 hv
    have e3 := sr_jb hJ (p := q) (by omega) hv
    have e4 : sr_cnt st 32 ≤ 16 + sr_cnt jo 16 := hN
    rw [sr_b1 hz] at e1
    rw [sr_b1 sr_10] at e2
    show sr_cnt (upd st (16 * q + v) (st (16 * p + v))) 32 ≤ 16 + sr_cnt (upd jo v 1) 16
    omega
  · intro k w hk hw
    by_cases e : k = 16 * q + v
    · subst e
      rw [pk_us, sr_fin w hw, sr_fin w hw]
      exact ⟨fun z => absurd z hz, fun _ => (hW _ w (by omega) hw).2 hz⟩
    · rw [pk_un e, sr_fout (by omega), sr_fout (by omega)]
      exact hW k w hk hw
theorem sr_init : sr_R (fun _ => 0) (fun _ => 0) (fun _ => 0) (fun _ => 0) := by
  refine ⟨fun _ _ => Or.inl rfl, fun _ _ => Or.inl rfl, ?_, fun _ _ _ _ => ⟨fun _ => rfl, fun _ => rfl⟩⟩
  show sr_cnt (fun _ => 0) 32 ≤ 16 + sr_cnt (fun _ => 0) 16
  decide +kernel
/-- the sum of the first n words, each times its place -/
def sr_dg (f : Nat → Int32) : Nat → Int32
  | 0 => 0
  | n + 1 => sr_dg f n + f n * nI (n + 1)
/-! indices -/
theorem sr_ix (p v : Nat) : nI p * 16 + nI v = nI (16 * p + v) := by
  show nI p * nI 16 + nI v = nI (16 * p + v)
  rw [pk_mul, nI_add, Nat.mul_comm]
theorem sr_iy (p v : Nat) : 16 * nI p + nI v = nI (16 * p + v) := by
  show nI 16 * nI p + nI v = nI (16 * p + v)
  rw [pk_mul, nI_add]
theorem sr_jx (k w : Nat) : nI k * 4 + nI w = nI (4 * k + w) := by
  show nI k * nI 4 + nI w = nI (4 * k + w)
  rw [pk_mul, nI_add, Nat.mul_comm]
theorem sr_jy (k w : Nat) : 4 * nI k + nI w = nI (4 * k + w) := by
  show nI 4 * nI k + nI w = nI (4 * k + w)
  rw [pk_mul, nI_add]
theorem sr_oth {p q : Nat} (h : p + q = 1) : 1 - nI p = nI q := by
  show nI 1 - nI p = nI q
  rw [pk_sub (by omega)]
  exact congrArg nI (by omega)
end
section
/-! the component's own methods, each with a general post -/
theorem sr_n0 : vp_nar .boolean 0 = 0 := by first | rfl | decide | decide +kernel
theorem sr_n1 : vp_nar .boolean 1 = 1 := by first | rfl | decide | decide +kernel
def sr_bp (p : Int32) : Prop := p < 0 ∨ nI 2 ≤ p
def sr_bv (v : Int32) : Prop := v < 0 ∨ nI 16 ≤ v
def sr_bw (w : Int32) : Prop := w < 0 ∨ nI 4 ≤ w
theorem sr_cp (p : Int32) : sr_bp p ∨ ∃ i, i < 2 ∧ p = nI i := by
  rcases pk_ix p (n := 2) (by decide) with h | h | h
  · exact Or.inl (Or.inl h)
  · exact Or.inl (Or.inr h)
  · exact Or.inr h
theorem sr_cv (p : Int32) : sr_bv p ∨ ∃ i, i < 16 ∧ p = nI i := by
  rcases pk_ix p (n := 16) (by decide) with h | h | h
  · exact Or.inl (Or.inl h)
  · exact Or.inl (Or.inr h)
  · exact Or.inr h
theorem sr_cw (p : Int32) : sr_bw p ∨ ∃ i, i < 4 ∧ p = nI i := by
  rcases pk_ix p (n := 4) (by decide) with h | h | h
  · exact Or.inl (Or.inl h)
  · exact Or.inl (Or.inr h)
  · exact Or.inr h
def sr_bpg (p v : Int32) : Prop := sr_bp p ∨ sr_bv v
theorem sr_cpg (p v : Int32) : sr_bpg p v ∨ ∃ i j, i < 2 ∧ j < 16 ∧ p = nI i ∧ v = nI j := by
  rcases sr_cp p with h | ⟨i, hi, e⟩
  · exact Or.inl (Or.inl h)
  · rcases sr_cv v with h | ⟨j, hj, f⟩
    · exact Or.inl (Or.inr h)
    · exact Or.inr ⟨i, j, hi, hj, e, f⟩
theorem sr_xpr1 {post : Int32 → Prop} {i : Nat} (hi : i < 2) (h : post 1) : wpX_isProcess post (nI i) :=
  br_f (nI_pos (by omega)) (br_f (nI_ge (b := 2) hi (by decide)) h)
theorem sr_xpr0 {post : Int32 → Prop} {p : Int32} (hb : sr_bp p) (h : post 0) : wpX_isProcess post p := by
  by_cases c : p < 0
  · exact br_t c h
  · exact br_f c (br_t (hb.resolve_left c) h)
theorem sr_xpn1 {post : Int32 → Prop} {i : Nat} (hi : i < 16) (h : post 1) : wpX_isPageNumber post (nI i) :=
  br_f (nI_pos (by omega)) (br_f (nI_ge (b := 16) hi (by decide)) h)
theorem sr_xpn0 {post : Int32 → Prop} {p : Int32} (hb : sr_bv p) (h : post 0) : wpX_isPageNumber post p := by
  by_cases c : p < 0
  · exact br_t c h
  · exact br_f c (br_t (hb.resolve_left c) h)
theorem sr_xwo1 {post : Int32 → Prop} {i : Nat} (hi : i < 4) (h : post 1) : wpX_isWord post (nI i) :=
  br_f (nI_pos (by omega)) (br_f (nI_ge (b := 4) hi (by decide)) h)
theorem sr_xwo0 {post : Int32 → Prop} {p : Int32} (hb : sr_bw p) (h : post 0) : wpX_isWord post p := by
  by_cases c : p < 0
  · exact br_t c h
  · exact br_f c (br_t (hb.resolve_left c) h)
theorem sr_xpg1 {post : Int32 → Prop} {i j : Nat} (hi : i < 2) (hj : j < 16) (h : post 1) : wpX_isPage post (nI i) (nI j) := by
  unfold wpX_isPage
  refine sr_xpr1 hi ?_
  refine br_f sr_10 ?_
  refine sr_xpn1 hj ?_
  exact br_f sr_10 h
theorem sr_xpg0 {post : Int32 → Prop} {p v : Int32} (hb : sr_bpg p v) (h : post 0) : wpX_isPage post p v := by
  unfold wpX_isPage
  rcases sr_cp p with b | ⟨i, hi, rfl⟩
  · refine sr_xpr0 b ?_
    exact br_t rfl h
  · refine sr_xpr1 hi ?_
    refine br_f sr_10 ?_
    rcases hb with b | b
    · exfalso
      rcases b with b | b
      · exact nI_pos (by omega) b
      · exact nI_ge (b := 2) hi (by decide) b
    · refine sr_xpn0 b ?_
      exact br_t rfl h
theorem sr_xps {post : Int32 → Prop} {st wx jo : Nat → Int32} {i j : Nat} (hi : i < 2) (hj : j < 16) (h0 : st (16 * i + j) = 0 → post 0) (h1 : ¬ st (16 * i + j) = 0 → post 1) : wpX_isPresent post (st, wx, jo) (nI i) (nI j) := by
  unfold wpX_isPresent wpX_pageIndex
  dsimp only
  rw [sr_ix, nI_clamp (by omega)]
  exact ⟨vp_in_nI (by omega) (by decide), h0, h1⟩
/-! inUse -/
theorem sr_dec (a c : Nat) : nI a - nI c + (-1) = nI a - nI (c + 1) := by
  rw [← nI_1]
  generalize nI a = x
  generalize nI c = y
  grind
theorem sr_s0 (a : Nat) : nI a - nI 0 = nI a := by
  rw [nI_0]
  generalize nI a = x
  grind
theorem sr_xu30 {post : Int32 → Prop} {st wx jo : Nat → Int32} (A : Nat) (h : post (nI A - nI (sr_cnt jo 16))) : ∀ d j : Nat, j + d = 16 → wX_inUse_30 post st wx jo (d + 1) (nI A - nI (sr_cnt jo j)) (nI j) := by
  intro d
  induction d with
  | zero =>
    intro j hj
    obtain rfl : j = 16 := by omega
    exact br_t (nI_le (a := 16) (by omega) (by decide)) h
  | succ d ih =>
    intro j hj
    refine br_f (nI_ge (b := 16) (by omega) (by decide)) ⟨vp_in_nI (by omega) (by decide), ?_⟩
    have q := ih (j + 1) (by omega)
    rw [sr_cs] at q
    rw [nI_clamp (by omega)]
    refine br_c (fun z => nm_r (nI_1 j) ?_) (fun z => nm_r (sr_dec A _) (nm_r (nI_1 j) ?_))
    · rw [sr_b0 z] at q
      exact q
    · rw [sr_b1 z] at q
      exact q
theorem sr_xu4 {post : Int32 → Prop} {st wx jo : Nat → Int32} (h : post (nI (sr_cnt st 32) - nI (sr_cnt jo 16))) : ∀ d j : Nat, j + d = 32 → wX_inUse_4 post st wx jo (d + 1) (nI (sr_cnt st j)) (nI j) := by
  intro d
  induction d with
  | zero =>
    intro j hj
    obtain rfl : j = 32 := by omega
    have q := sr_xu30 (wx := wx) (st := st) (sr_cnt st 32) h 16 0 rfl
    rw [show sr_cnt jo 0 = 0 from rfl, sr_s0] at q
    exact br_t (nI_le (a := 32) (by omega) (by decide)) ⟨17, q⟩
  | succ d ih =>
    intro j hj
    refine br_f (nI_ge (b := 32) (by omega) (by decide)) ⟨vp_in_nI (by omega) (by decide), ?_⟩
    have q := ih (j + 1) (by omega)
    rw [sr_cs] at q
    rw [nI_clamp (by omega)]
    refine br_c (fun z => nm_r (nI_1 j) ?_) (fun z => nm_r (nI_1 _) (nm_r (nI_1 j) ?_))
    · rw [sr_b0 z] at q
      exact q
    · rw [sr_b1 z] at q
      exact q
theorem sr_xuse {post : Int32 → Prop} {st wx jo : Nat → Int32} (h : post (nI (sr_cnt st 32) - nI (sr_cnt jo 16))) : wpX_inUse post (st, wx, jo) :=
  ⟨33, sr_xu4 h 32 0 rfl⟩
theorem sr_full {st jo : Nat → Int32} (hJ : sr_J st jo) (hN : sr_N st jo) :
    (nI (sr_cnt st 32) - nI (sr_cnt jo 16) = 16 ∧ ¬ nI (sr_cnt st 32) - nI (sr_cnt jo 16) < 16) ∨
    (¬ nI (sr_cnt st 32) - nI (sr_cnt jo 16) = 16 ∧ nI (sr_cnt st 32) - nI (sr_cnt jo 16) < 16 ∧ sr_cnt st 32 < 16 + sr_cnt jo 16) := by
  obtain ⟨m, h1, h2, h3⟩ := sr_use hJ hN
  rw [h2]
  by_cases e : m = 16
  · subst e
    exact Or.inl ⟨rfl, nI_nlt (b := 16) (Nat.le_refl 16) (by decide)⟩
  · refine Or.inr ⟨fun z => e ?_, nI_lt (b := 16) (by omega) (by decide), by omega⟩
    exact (nI_eq (b := 16) (by omega) (by decide)).mp z
/-! makeAbsent, copyWords, sharePage -/
theorem sr_xa28 {post : SX → Prop} {st wx jo : Nat → Int32} {b : Nat} (hb : b + 4 ≤ 128) (h : post (st, sr_fill wx b 4 (fun _ => 0), jo)) : ∀ d w : Nat, w + d = 4 → wX_makeAbsent_28 post (nI b) (d + 1) (nI w) st (sr_fill wx b w (fun _ => 0)) jo := by
  intro d
  induction d with
  | zero =>
    intro w hw
    obtain rfl : w = 4 := by omega
    exact br_t (nI_le (a := 4) (by omega) (by decide)) h
  | succ d ih =>
    intro w hw
    have e : upd (sr_fill wx b w (fun _ => 0)) (nI b + nI w).toNatClampNeg 0 = sr_fill wx b (w + 1) (fun _ => 0) := by
      rw [nI_add, nI_clamp (by omega)]
      exact sr_fs wx b w (fun _ => 0)
    exact br_f (nI_ge (b := 4) (by omega) (by decide)) ⟨pk_in (b + w) 128 (by omega) (nI_add b w), nm_r e (nm_r (nI_1 w) (ih (w + 1) (by omega)))⟩
theorem sr_xab {post : SX → Prop} {st wx jo : Nat → Int32} {i j : Nat} (hi : i < 2) (hj : j < 16) (h : post (upd st (16 * i + j) 0, sr_fill wx (4 * (16 * i + j)) 4 (fun _ => 0), upd jo j 0)) : wpX_makeAbsent post (st, wx, jo) (nI i) (nI j) := by
  have q := sr_xa28 (b := 4 * (16 * i + j)) (by omega) h 4 0 rfl
  rw [sr_f0] at q
  have e : (nI i * 16 + nI j) * 4 + 0 = nI (4 * (16 * i + j)) := by
    rw [sr_ix]
    exact sr_jx _ 0
  unfold wpX_makeAbsent wpX_pageIndex wpX_wordIndex
  dsimp only
  rw [e]
  refine ⟨pk_in (16 * i + j) 32 (by omega) (sr_ix i j), nm_r (e' := upd st (16 * i + j) 0) ?_ ⟨vp_in_nI hj (by decide), nm_r (e' := upd jo j 0) ?_ ⟨5, q⟩⟩⟩
  · rw [sr_ix, nI_clamp (by omega)]
  · rw [nI_clamp (by omega), sr_n0]
theorem sr_xc20 {post : SX → Prop} {st wx jo : Nat → Int32} {s t : Nat} (hs : s + 4 ≤ 128) (ht : t + 4 ≤ 128) (hd : s = t ∨ s + 4 ≤ t ∨ t + 4 ≤ s) (h : post (st, sr_fill wx t 4 (fun w => wx (s + w)), jo)) : ∀ d w : Nat, w + d = 4 → wX_copyWords_20 post (nI s) (nI t) (d + 1) (nI w) st (sr_fill wx t w (fun w => wx (s + w))) jo := by
  intro d
  induction d with
  | zero =>
    intro w hw
    obtain rfl : w = 4 := by omega
    exact br_t (nI_le (a := 4) (by omega) (by decide)) h
  | succ d ih =>
    intro w hw
    have e : upd (sr_fill wx t w (fun w => wx (s + w))) (nI t + nI w).toNatClampNeg (sr_fill wx t w (fun w => wx (s + w)) (nI s + nI w).toNatClampNeg) = sr_fill wx t (w + 1) (fun w => wx (s + w)) := by
      rw [nI_add, nI_add, nI_clamp (by omega), nI_clamp (by omega), sr_fout (by omega)]
      exact sr_fs wx t w (fun w => wx (s + w))
    exact br_f (nI_ge (b := 4) (by omega) (by decide)) ⟨pk_in (s + w) 128 (by omega) (nI_add s w), pk_in (t + w) 128 (by omega) (nI_add t w), nm_r e (nm_r (nI_1 w) (ih (w + 1) (by omega)))⟩
theorem sr_xcw {post : SX → Prop} {st wx jo : Nat → Int32} {i j k l : Nat} (hi : i < 2) (hj : j < 16) (hk : k < 2) (hl : l < 16) (h : post (st, sr_fill wx (4 * (16 * k + l)) 4 (fun w => wx (4 * (16 * i + j) + w)), jo)) : wpX_copyWords post (st, wx, jo) (nI i) (nI j) (nI k) (nI l) := by
  have q := sr_xc20 (s := 4 * (16 * i + j)) (t := 4 * (16 * k + l)) (by omega) (by omega) (by omega) h 4 0 rfl
  rw [sr_f0] at q
  have e1 : (nI i * 16 + nI j) * 4 + 0 = nI (4 * (16 * i + j)) := by
    rw [sr_ix]
    exact sr_jx _ 0
  have e2 : (nI k * 16 + nI l) * 4 + 0 = nI (4 * (16 * k + l)) := by
    rw [sr_ix]
    exact sr_jx _ 0
  unfold wpX_copyWords wpX_wordIndex
  dsimp only
  rw [e1, e2]
  exact ⟨5, q⟩
theorem sr_xsh {post : SX → Prop} {st wx jo : Nat → Int32} {i q j : Nat} (hiq : i + q = 1) (hj : j < 16) (h : post (upd st (16 * q + j) (st (16 * i + j)), sr_fill wx (4 * (16 * q + j)) 4 (fun w => wx (4 * (16 * i + j) + w)), upd jo j 1)) : wpX_sharePage post (st, wx, jo) (nI i) (nI j) := by
  unfold wpX_sharePage
  dsimp only
  refine nm_r (sr_oth hiq) ?_
  refine sr_xcw (by omega) hj (by omega) hj ?_
  unfold wpX_pageIndex
  dsimp only
  refine ⟨pk_in (16 * i + j) 32 (by omega) (sr_ix i j), pk_in (16 * q + j) 32 (by omega) (sr_ix q j), nm_r (e' := upd st (16 * q + j) (st (16 * i + j))) ?_ ⟨vp_in_nI hj (by decide), nm_r (e' := upd jo j 1) ?_ h⟩⟩
  · rw [sr_ix, sr_ix, nI_clamp (by omega), nI_clamp (by omega)]
  · rw [nI_clamp (by omega), sr_n1]
/-! present -/
/-- how many of the first n pages of process i are present -/
def sr_pc (st : Nat → Int32) (i n : Nat) : Nat := sr_cnt (fun v => st (16 * i + v)) n
theorem sr_pcs (st : Nat → Int32) (i n : Nat) : sr_pc st i (n + 1) = sr_pc st i n + sr_b (st (16 * i + n)) := rfl
theorem sr_pce {st st' : Nat → Int32} {i : Nat} (n : Nat) (h : ∀ v, v < n → st' (16 * i + v) = st (16 * i + v)) : sr_pc st' i n = sr_pc st i n := sr_cext n h
theorem sr_pc2 (st : Nat → Int32) : sr_pc st 0 16 + sr_pc st 1 16 = sr_cnt st 32 := by
  have h : sr_cnt st 32 = sr_cnt st 16 + sr_cnt (fun i => st (16 + i)) 16 := sr_cadd st 16 16
  have h0 : sr_pc st 0 16 = sr_cnt st 16 := sr_cext 16 (fun v _ => congrArg st (by omega))
  have h1 : sr_pc st 1 16 = sr_cnt (fun i => st (16 + i)) 16 := sr_cext 16 (fun v _ => congrArg st (by omega))
  omega
theorem sr_xp13 {post : Int32 → Prop} {st wx jo : Nat → Int32} {i : Nat} (hi : i < 2) (h : post (nI (sr_pc st i 16))) : ∀ d j : Nat, j + d = 16 → wX_present_13 post (nI i) st wx jo (d + 1) (nI (sr_pc st i j)) (nI j) := by
  intro d
  induction d with
  | zero =>
    intro j hj
    obtain rfl : j = 16 := by omega
    exact br_t (nI_le (a := 16) (by omega) (by decide)) h
  | succ d ih =>
    intro j hj
    have q := ih (j + 1) (by omega)
    rw [sr_pcs] at q
    refine br_f (nI_ge (b := 16) (by omega) (by decide)) ?_
    refine sr_xps hi (by omega) (fun z => ?_) (fun z => ?_)
    · rw [sr_b0 z] at q
      exact br_t rfl (nm_r (nI_1 j) q)
    · rw [sr_b1 z] at q
      exact br_f sr_10 (nm_r (nI_1 _) (nm_r (nI_1 j) q))
theorem sr_xpres {post : Int32 → Prop} {st wx jo : Nat → Int32} {i : Nat} (hi : i < 2) (h : post (nI (sr_pc st i 16))) : wpX_present post (st, wx, jo) (nI i) := by
  unfold wpX_present
  dsimp only
  refine sr_xpr1 hi ?_
  exact br_f sr_10 ⟨17, sr_xp13 hi h 16 0 rfl⟩
/-! digest -/
theorem sr_dgs (f : Nat → Int32) (n : Nat) : sr_dg f (n + 1) = sr_dg f n + f n * nI (n + 1) := rfl
theorem sr_xd21 {post : Int32 → Prop} {st wx jo : Nat → Int32} {b : Nat} (hb : b + 64 ≤ 128) (h : post (sr_dg (fun n => wx (b + n)) 64)) : ∀ d j : Nat, j + d = 64 → wX_digest_21 post (nI b) st wx jo (d + 1) (sr_dg (fun n => wx (b + n)) j) (nI j) := by
  intro d
  induction d with
  | zero =>
    intro j hj
    obtain rfl : j = 64 := by omega
    exact br_t (nI_le (a := 64) (by omega) (by decide)) h
  | succ d ih =>
    intro j hj
    have e : sr_dg (fun n => wx (b + n)) j + wx (nI b + nI j).toNatClampNeg * (nI j + 1) = sr_dg (fun n => wx (b + n)) (j + 1) := by
      rw [nI_add, nI_clamp (by omega), nI_1]
      rfl
    exact br_f (nI_ge (b := 64) (by omega) (by decide)) ⟨pk_in (b + j) 128 (by omega) (nI_add b j), nm_r e (nm_r (nI_1 j) (ih (j + 1) (by omega)))⟩
theorem sr_xdg {post : Int32 → Prop} {st wx jo : Nat → Int32} {i : Nat} (hi : i < 2) (h : post (sr_dg (fun n => wx (64 * i + n)) 64)) : wpX_digest post (st, wx, jo) (nI i) := by
  have q := sr_xd21 (st := st) (jo := jo) (b := 64 * i) (by omega) h 64 0 rfl
  have e : (nI i * 16 + 0) * 4 + 0 = nI (64 * i) := by
    have e1 : nI i * 16 + 0 = nI (16 * i) := sr_ix i 0
    have e2 : nI (16 * i) * 4 + 0 = nI (4 * (16 * i)) := sr_jx _ 0
    rw [e1, e2]
    exact congrArg nI (by omega)
  unfold wpX_digest wpX_wordIndex
  dsimp only
  rw [e]
  refine sr_xpr1 hi ?_
  exact br_f sr_10 ⟨65, q⟩
end
section
/-! the reference's own methods, each with a general post -/
theorem sr_gt {n : Nat} {p : Int32} (hn : n + 1 < 2 ^ 31) (h : nI (n + 1) ≤ p) (c : ¬ p < 0) : nI n < p := by
  obtain ⟨m, hm, rfl⟩ := nI_of c
  rw [nI_leI hn hm] at h
  exact nI_lt (by omega) hm
theorem sr_ngt {n : Nat} {p : Int32} (hn : n + 1 < 2 ^ 31) (h : nI (n + 1) ≤ p) (c : ¬ p < 0) : ¬ p ≤ nI n := by
  obtain ⟨m, hm, rfl⟩ := nI_of c
  rw [nI_leI hn hm] at h
  exact nI_ge (by omega) hm
theorem sr_ypg1 {post : Int32 → Prop} {st wy jo : Nat → Int32} {i j : Nat} (hi : i < 2) (hj : j < 16) (h : post 1) : wpY_isPage post (st, wy, jo) (nI i) (nI j) :=
  br_f (nI_pos (by omega)) (br_f (nI_nlt (a := 1) (by omega) (by decide)) (br_f (nI_pos (by omega)) (br_f (nI_nlt (a := 15) (by omega) (by decide)) h)))
theorem sr_ypg0 {post : Int32 → Prop} {st wy jo : Nat → Int32} {p v : Int32} (hb : sr_bpg p v) (h : post 0) : wpY_isPage post (st, wy, jo) p v := by
  rcases sr_cp p with b | ⟨i, hi, rfl⟩
  · by_cases c : p < 0
    · exact br_t c h
    · exact br_f c (br_t (sr_gt (n := 1) (by decide) (b.resolve_left c) c) h)
  · refine br_f (nI_pos (by omega)) (br_f (nI_nlt (a := 1) (by omega) (by decide)) ?_)
    rcases hb with b | b
    · exfalso
      rcases b with b | b
      · exact nI_pos (by omega) b
      · exact nI_ge (b := 2) hi (by decide) b
    · by_cases c : v < 0
      · exact br_t c h
      · exact br_f c (br_t (sr_gt (n := 15) (by decide) (b.resolve_left c) c) h)
/-! present, inUse -/
theorem sr_yix {i j : Nat} (hi : i < 2) (hj : j < 16) : (16 * nI i + nI j).toNatClampNeg = 16 * i + j := by
  rw [sr_iy]
  exact nI_clamp (by omega)
theorem sr_yp15 {post : Int32 → Prop} {st wy jo : Nat → Int32} {i : Nat} (hi : i < 2) (h : post (nI (sr_pc st i 16))) : ∀ d j : Nat, j + d = 16 → wY_present_15 post (nI i) st wy jo (d + 1) (nI (sr_pc st i j)) (nI j) := by
  intro d
  induction d with
  | zero =>
    intro j hj
    obtain rfl : j = 16 := by omega
    exact br_t (nI_le (a := 16) (by omega) (by decide)) h
  | succ d ih =>
    intro j hj
    have q := ih (j + 1) (by omega)
    rw [sr_pcs] at q
    refine br_f (nI_ge (b := 16) (by omega) (by decide)) ⟨pk_in (16 * i + j) 32 (by omega) (sr_iy i j), ?_⟩
    rw [sr_yix hi (by omega)]
    refine br_c (fun z => ?_) (fun z => ?_)
    · rw [sr_b0 z] at q
      exact nm_r (nI_1 j) q
    · rw [sr_b1 z] at q
      exact nm_r (nI_1 _) (nm_r (nI_1 j) q)
theorem sr_ypres {post : Int32 → Prop} {st wy jo : Nat → Int32} {i : Nat} (hi : i < 2) (h : post (nI (sr_pc st i 16))) : wpY_present post (st, wy, jo) (nI i) :=
  br_f (nI_pos (by omega)) (br_t (nI_le (b := 1) (by omega) (by decide)) ⟨17, sr_yp15 hi h 16 0 rfl⟩)
theorem sr_yu14 {post : Int32 → Prop} {st wy jo : Nat → Int32} (A : Nat) (h : post (nI A - nI (sr_cnt jo 16))) : ∀ d j : Nat, j + d = 16 → wY_inUse_14 post st wy jo (d + 1) (nI A - nI (sr_cnt jo j)) (nI j) := by
  intro d
  induction d with
  | zero =>
    intro j hj
    obtain rfl : j = 16 := by omega
    exact br_t (nI_le (a := 16) (by omega) (by decide)) h
  | succ d ih =>
    intro j hj
    refine br_f (nI_ge (b := 16) (by omega) (by decide)) ⟨vp_in_nI (by omega) (by decide), ?_⟩
    have q := ih (j + 1) (by omega)
    rw [sr_cs] at q
    rw [nI_clamp (by omega)]
    refine br_c (fun z => nm_r (nI_1 j) ?_) (fun z => nm_r (sr_dec A _) (nm_r (nI_1 j) ?_))
    · rw [sr_b0 z] at q
      exact q
    · rw [sr_b1 z] at q
      exact q
theorem sr_yuse {post : Int32 → Prop} {st wy jo : Nat → Int32} (h : post (nI (sr_cnt st 32) - nI (sr_cnt jo 16))) : wpY_inUse post (st, wy, jo) := by
  have q := sr_yu14 (wy := wy) (st := st) (sr_cnt st 32) h 16 0 rfl
  rw [show sr_cnt jo 0 = 0 from rfl, sr_s0] at q
  unfold wpY_inUse
  dsimp only
  refine sr_ypres (i := 0) (by decide) ?_
  refine sr_ypres (i := 1) (by decide) ?_
  refine nm_r (e' := nI (sr_cnt st 32)) ?_ ⟨17, q⟩
  rw [nI_add, sr_pc2]
/-! touch -/
theorem sr_yt51 {post : Int32 → SY → Prop} {st wy jo : Nat → Int32} {k : Nat} (hk : k < 32) (h : post 1 (st, sr_fill wy (4 * k) 4 (fun _ => 0), jo)) : ∀ d w : Nat, w + d = 4 → wY_touch_51 post (nI k) (d + 1) (nI w) st (sr_fill wy (4 * k) w (fun _ => 0)) jo := by
  intro d
  induction d with
  | zero =>
    intro w hw
    obtain rfl : w = 4 := by omega
    exact br_t (nI_le (a := 4) (by omega) (by decide)) h
  | succ d ih =>
    intro w hw
    have e : upd (sr_fill wy (4 * k) w (fun _ => 0)) (4 * nI k + nI w).toNatClampNeg 0 = sr_fill wy (4 * k) (w + 1) (fun _ => 0) := by
      rw [sr_jy, nI_clamp (by omega)]
      exact sr_fs wy (4 * k) w (fun _ => 0)
    exact br_f (nI_ge (b := 4) (by omega) (by decide)) ⟨pk_in (4 * k + w) 128 (by omega) (sr_jy k w), nm_r e (nm_r (nI_1 w) (ih (w + 1) (by omega)))⟩
theorem sr_ytob {post : Int32 → SY → Prop} {st wy jo : Nat → Int32} {p v : Int32} (b : sr_bpg p v) (h : post (-1) (st, wy, jo)) : wpY_touch post (st, wy, jo) p v := by
  unfold wpY_touch
  dsimp only
  refine sr_ypg0 b ?_
  exact br_t rfl h
theorem sr_ytop {post : Int32 → SY → Prop} {st wy jo : Nat → Int32} {i j : Nat} (hi : i < 2) (hj : j < 16) (hz : ¬ st (16 * i + j) = 0) (h : post 0 (st, wy, jo)) : wpY_touch post (st, wy, jo) (nI i) (nI j) := by
  unfold wpY_touch
  dsimp only
  refine sr_ypg1 hi hj ?_
  refine br_f sr_10 (nm_r (sr_iy i j) ⟨vp_in_nI (by omega) (by decide), ?_⟩)
  rw [nI_clamp (by omega)]
  exact br_f hz h
theorem sr_ytof {post : Int32 → SY → Prop} {st wy jo : Nat → Int32} {i j : Nat} (hi : i < 2) (hj : j < 16) (hz : st (16 * i + j) = 0) (hf : nI (sr_cnt st 32) - nI (sr_cnt jo 16) = 16) (h : post (-2) (st, wy, jo)) : wpY_touch post (st, wy, jo) (nI i) (nI j) := by
  unfold wpY_touch
  dsimp only
  refine sr_ypg1 hi hj ?_
  refine br_f sr_10 (nm_r (sr_iy i j) ⟨vp_in_nI (by omega) (by decide), ?_⟩)
  rw [nI_clamp (by omega)]
  refine br_t hz ?_
  refine sr_yuse ?_
  exact br_t hf h
theorem sr_yton {post : Int32 → SY → Prop} {st wy jo : Nat → Int32} {i j : Nat} (hi : i < 2) (hj : j < 16) (hz : st (16 * i + j) = 0) (hf : ¬ nI (sr_cnt st 32) - nI (sr_cnt jo 16) = 16) (h : post 1 (upd st (16 * i + j) 1, sr_fill wy (4 * (16 * i + j)) 4 (fun _ => 0), jo)) : wpY_touch post (st, wy, jo) (nI i) (nI j) := by
  have q := sr_yt51 (k := 16 * i + j) (by omega) h 4 0 rfl
  rw [sr_f0] at q
  unfold wpY_touch
  dsimp only
  refine sr_ypg1 hi hj ?_
  refine br_f sr_10 (nm_r (sr_iy i j) ⟨vp_in_nI (by omega) (by decide), ?_⟩)
  rw [nI_clamp (by omega)]
  refine br_t hz ?_
  refine sr_yuse ?_
  exact br_f hf ⟨vp_in_nI (by omega) (by decide), nm_e ⟨5, q⟩⟩
/-! own -/
theorem sr_m20 : ¬ (-2 : Int32) = 0 := by decide
theorem sr_m40 : ¬ (-4 : Int32) = 0 := by decide
theorem sr_1m2 : ¬ (1 : Int32) = -2 := by decide
theorem sr_12 : ¬ (1 : Int32) = 2 := by decide
theorem sr_yoA {post : Int32 → SY → Prop} {st wy jo : Nat → Int32} {i j : Nat} (hi : i < 2) (hj : j < 16) (h2 : st (16 * i + j) = 2) (h : post (-4) (st, wy, jo)) : wpY_own post (st, wy, jo) (nI i) (nI j) := by
  unfold wpY_own
  dsimp only
  rw [sr_iy, nI_clamp (n := 16 * i + j) (by omega)]
  exact ⟨vp_in_nI (by omega) (by decide), br_t h2 h⟩
theorem sr_yoB {post : Int32 → SY → Prop} {st wy jo : Nat → Int32} {i j : Nat} (hi : i < 2) (hj : j < 16) (h2 : ¬ st (16 * i + j) = 2) (h0 : st (16 * i + j) = 0) (hf : nI (sr_cnt st 32) - nI (sr_cnt jo 16) = 16) (h : post (-2) (st, wy, jo)) : wpY_own post (st, wy, jo) (nI i) (nI j) := by
  unfold wpY_own
  dsimp only
  rw [sr_iy, nI_clamp (n := 16 * i + j) (by omega)]
  refine ⟨vp_in_nI (by omega) (by decide), br_f h2 ⟨vp_in_nI (by omega) (by decide), br_t h0 ?_⟩⟩
  refine sr_ytof hi hj h0 hf ?_
  exact br_t rfl h
theorem sr_yoC {post : Int32 → SY → Prop} {st wy jo : Nat → Int32} {i j : Nat} (hi : i < 2) (hj : j < 16) (h2 : ¬ st (16 * i + j) = 2) (h0 : st (16 * i + j) = 0) (hf : ¬ nI (sr_cnt st 32) - nI (sr_cnt jo 16) = 16) (h : post 0 (upd st (16 * i + j) 1, sr_fill wy (4 * (16 * i + j)) 4 (fun _ => 0), jo)) : wpY_own post (st, wy, jo) (nI i) (nI j) := by
  unfold wpY_own
  dsimp only
  rw [sr_iy, nI_clamp (n := 16 * i + j) (by omega)]
  refine ⟨vp_in_nI (by omega) (by decide), br_f h2 ⟨vp_in_nI (by omega) (by decide), br_t h0 ?_⟩⟩
  refine sr_yton hi hj h0 hf ?_
  exact br_f sr_1m2 h
theorem sr_yoD {post : Int32 → SY → Prop} {st wy jo : Nat → Int32} {i j : Nat} (hi : i < 2) (hj : j < 16) (h2 : ¬ st (16 * i + j) = 2) (h0 : ¬ st (16 * i + j) = 0) (hz : jo j = 0) (h : post 0 (st, wy, jo)) : wpY_own post (st, wy, jo) (nI i) (nI j) := by
  unfold wpY_own
  dsimp only
  rw [sr_iy, nI_clamp (n := 16 * i + j) (by omega), nI_clamp (n := j) (by omega)]
  exact ⟨vp_in_nI (by omega) (by decide), br_f h2 ⟨vp_in_nI (by omega) (by decide), br_f h0 ⟨vp_in_nI (by omega) (by decide), br_t hz h⟩⟩⟩
theorem sr_yoE {post : Int32 → SY → Prop} {st wy jo : Nat → Int32} {i j : Nat} (hi : i < 2) (hj : j < 16) (h2 : ¬ st (16 * i + j) = 2) (h0 : ¬ st (16 * i + j) = 0) (hz : ¬ jo j = 0) (hf : nI (sr_cnt st 32) - nI (sr_cnt jo 16) = 16) (h : post (-2) (st, wy, jo)) : wpY_own post (st, wy, jo) (nI i) (nI j) := by
  unfold wpY_own
  dsimp only
  rw [sr_iy, nI_clamp (n := 16 * i + j) (by omega), nI_clamp (n := j) (by omega)]
  refine ⟨vp_in_nI (by omega) (by decide), br_f h2 ⟨vp_in_nI (by omega) (by decide), br_f h0 ⟨vp_in_nI (by omega) (by decide), br_f hz ?_⟩⟩⟩
  refine sr_yuse ?_
  exact br_t hf h
theorem sr_yoF {post : Int32 → SY → Prop} {st wy jo : Nat → Int32} {i j : Nat} (hi : i < 2) (hj : j < 16) (h2 : ¬ st (16 * i + j) = 2) (h0 : ¬ st (16 * i + j) = 0) (hz : ¬ jo j = 0) (hf : ¬ nI (sr_cnt st 32) - nI (sr_cnt jo 16) = 16) (h : post 0 (st, wy, upd jo j 0)) : wpY_own post (st, wy, jo) (nI i) (nI j) := by
  unfold wpY_own
  dsimp only
  rw [sr_iy, nI_clamp (n := 16 * i + j) (by omega), nI_clamp (n := j) (by omega), sr_n0]
  refine ⟨vp_in_nI (by omega) (by decide), br_f h2 ⟨vp_in_nI (by omega) (by decide), br_f h0 ⟨vp_in_nI (by omega) (by decide), br_f hz ?_⟩⟩⟩
  refine sr_yuse ?_
  exact br_f hf ⟨vp_in_nI (by omega) (by decide), nm_e h⟩
/-! the component's makeOwn beside it -/
theorem sr_xmoA {post : Int32 → SX → Prop} {st wx jo : Nat → Int32} {i j : Nat} (hi : i < 2) (hj : j < 16) (h2 : st (16 * i + j) = 2) (h : post (-4) (st, wx, jo)) : wpX_makeOwn post (st, wx, jo) (nI i) (nI j) := by
  unfold wpX_makeOwn wpX_pageIndex
  dsimp only
  rw [sr_ix, nI_clamp (n := 16 * i + j) (by omega)]
  exact ⟨vp_in_nI (by omega) (by decide), br_t h2 h⟩
theorem sr_xmoB {post : Int32 → SX → Prop} {st wx jo : Nat → Int32} {i j : Nat} (hi : i < 2) (hj : j < 16) (h2 : ¬ st (16 * i + j) = 2) (hn : st (16 * i + j) = 0 ∨ ¬ jo j = 0) (h : wX_makeOwn_37 post (nI j) (nI (16 * i + j)) st wx jo) : wpX_makeOwn post (st, wx, jo) (nI i) (nI j) := by
  unfold wpX_makeOwn wpX_pageIndex
  dsimp only
  rw [sr_ix, nI_clamp (n := 16 * i + j) (by omega), nI_clamp (n := j) (by omega)]
  refine ⟨vp_in_nI (by omega) (by decide), br_f h2 ⟨vp_in_nI (by omega) (by decide), ?_⟩⟩
  by_cases z : jo j = 0
  · have h0 : st (16 * i + j) = 0 := hn.resolve_right (fun q => q z)
    exact br_t z ⟨vp_in_nI (by omega) (by decide), br_t h0 h⟩
  · exact br_f z h
theorem sr_xmoD {post : Int32 → SX → Prop} {st wx jo : Nat → Int32} {i j : Nat} (hi : i < 2) (hj : j < 16) (h2 : ¬ st (16 * i + j) = 2) (h0 : ¬ st (16 * i + j) = 0) (hz : jo j = 0) (h : wX_makeOwn_42 post (nI j) (nI (16 * i + j)) 0 st wx jo) : wpX_makeOwn post (st, wx, jo) (nI i) (nI j) := by
  unfold wpX_makeOwn wpX_pageIndex
  dsimp only
  rw [sr_ix, nI_clamp (n := 16 * i + j) (by omega), nI_clamp (n := j) (by omega)]
  exact ⟨vp_in_nI (by omega) (by decide), br_f h2 ⟨vp_in_nI (by omega) (by decide), br_t hz ⟨vp_in_nI (by omega) (by decide), br_f h0 h⟩⟩⟩
theorem sr_xm61 {post : Int32 → SX → Prop} {st wx jo : Nat → Int32} {k j : Nat} (hk : k < 32) (hj : j < 16) (h : post 0 (upd st k 1, wx, upd jo j 0)) : wX_makeOwn_61 post (nI j) (nI k) st wx jo := by
  unfold wX_makeOwn_61
  rw [nI_clamp (n := k) (by omega), nI_clamp (n := j) (by omega), sr_n0]
  exact ⟨vp_in_nI (by omega) (by decide), nm_e ⟨vp_in_nI (by omega) (by decide), nm_e h⟩⟩
theorem sr_xm37f {post : Int32 → SX → Prop} {st wx jo : Nat → Int32} {k j : Nat} (hf : ¬ nI (sr_cnt st 32) - nI (sr_cnt jo 16) < 16) (h : post (-2) (st, wx, jo)) : wX_makeOwn_37 post (nI j) (nI k) st wx jo := by
  unfold wX_makeOwn_37 wX_makeOwn_42
  refine br_f sr_10 ?_
  refine sr_xuse ?_
  exact br_f hf h
theorem sr_xm37n {post : Int32 → SX → Prop} {st wx jo : Nat → Int32} {k j : Nat} (hk : k < 32) (hj : j < 16) (hf : nI (sr_cnt st 32) - nI (sr_cnt jo 16) < 16) (h : post 0 (upd st k 1, wx, upd jo j 0)) : wX_makeOwn_37 post (nI j) (nI k) st wx jo := by
  unfold wX_makeOwn_37 wX_makeOwn_42
  refine br_f sr_10 ?_
  refine sr_xuse ?_
  exact br_t hf (sr_xm61 hk hj h)
/-- makeOwn and own in lockstep -/
theorem sr_own {st jo wx wy : Nat → Int32} (h : sr_R st jo wx wy) {i j : Nat} (hi : i < 2) (hj : j < 16) :
    ∃ (r : Int32) (st' jo' wy' : Nat → Int32),
      (∀ post : Int32 → SX → Prop, post r (st', wx, jo') → wpX_makeOwn post (st, wx, jo) (nI i) (nI j)) ∧
      (∀ post : Int32 → SY → Prop, post r (st', wy', jo') → wpY_own post (st, wy, jo) (nI i) (nI j)) ∧
      sr_R st' jo' wx wy' ∧ (¬ r = 0 ∨ (r = 0 ∧ ¬ st' (16 * i + j) = 0 ∧ ¬ st' (16 * i + j) = 2 ∧ jo' j = 0)) := by
  obtain ⟨hS, hJ, hN, hW⟩ := id h
  by_cases h2 : st (16 * i + j) = 2
  · exact ⟨-4, st, jo, wy, fun post hp => sr_xmoA hi hj h2 hp, fun post hp => sr_yoA hi hj h2 hp, h, Or.inl sr_m40⟩
  · by_cases h0 : st (16 * i + j) = 0
    · have hz : jo j = 0 := sr_jz hJ hi hj h0
      rcases sr_full hJ hN with ⟨f1, f2⟩ | ⟨f1, f2, f3⟩
      · exact ⟨-2, st, jo, wy, fun post hp => sr_xmoB hi hj h2 (Or.inl h0) (sr_xm37f f2 hp), fun post hp => sr_yoB hi hj h2 h0 f1 hp, h, Or.inl sr_m20⟩
      · refine ⟨0, upd st (16 * i + j) 1, jo, sr_fill wy (4 * (16 * i + j)) 4 (fun _ => 0), fun post hp => sr_xmoB hi hj h2 (Or.inl h0) (sr_xm37n (by omega) hj f2 ?_), fun post hp => sr_yoC hi hj h2 h0 f1 hp, sr_come h hi hj h0 f3, Or.inr ⟨rfl, ?_, ?_, hz⟩⟩
        · rw [sr_ui hz]
          exact hp
        · rw [pk_us]
          exact sr_10
        · rw [pk_us]
          exact sr_12
    · have h1 : st (16 * i + j) = 1 := by
        rcases hS (16 * i + j) (by omega) with a | a | a
        · exact absurd a h0
        · exact a
        · exact absurd a h2
      by_cases hz : jo j = 0
      · refine ⟨0, st, jo, wy, fun post hp => sr_xmoD hi hj h2 h0 hz ?_, fun post hp => sr_yoD hi hj h2 h0 hz hp, h, Or.inr ⟨rfl, h0, h2, hz⟩⟩
        unfold wX_makeOwn_42
        refine br_t rfl (sr_xm61 (by omega) hj ?_)
        rw [sr_ui h1, sr_ui hz]
        exact hp
      · rcases sr_full hJ hN with ⟨f1, f2⟩ | ⟨f1, f2, f3⟩
        · exact ⟨-2, st, jo, wy, fun post hp => sr_xmoB hi hj h2 (Or.inr hz) (sr_xm37f f2 hp), fun post hp => sr_yoE hi hj h2 h0 hz f1 hp, h, Or.inl sr_m20⟩
        · refine ⟨0, st, upd jo j 0, wy, fun post hp => sr_xmoB hi hj h2 (Or.inr hz) (sr_xm37n (by omega) hj f2 ?_), fun post hp => sr_yoF hi hj h2 h0 hz f1 hp, sr_lone h hj hz f3, Or.inr ⟨rfl, h0, h2, pk_us⟩⟩
          rw [sr_ui h1]
          exact hp
end
section
/-! words: read, write -/
theorem sr_ywix {i j w : Nat} (hi : i < 2) (hj : j < 16) (hw : w < 4) : (4 * (16 * nI i + nI j) + nI w).toNatClampNeg = 4 * (16 * i + j) + w := by
  rw [sr_iy, sr_jy]
  exact nI_clamp (by omega)
theorem sr_yread {post : Int32 → Prop} {st jo wx wy : Nat → Int32} (h : sr_R st jo wx wy) {i j w : Nat} (hi : i < 2) (hj : j < 16) (hw : w < 4) (hp : post (wx (4 * (16 * i + j) + w))) : wpY_read post (st, wy, jo) (nI i) (nI j) (nI w) := by
  have hW := h.2.2.2 (16 * i + j) w (by omega) hw
  unfold wpY_read
  dsimp only
  refine sr_ypg1 hi hj ?_
  refine br_f sr_10 (br_f (nI_pos (by omega)) (br_f (nI_nlt (a := 3) (by omega) (by decide)) ⟨pk_in (16 * i + j) 32 (by omega) (sr_iy i j), ?_⟩))
  rw [sr_yix hi hj, sr_ywix hi hj hw]
  refine br_c (fun z => ?_) (fun z => ⟨?_, ?_⟩)
  · rw [hW.1 z] at hp
    exact hp
  · rw [sr_iy, sr_jy]
    exact vp_in_nI (by omega) (by decide)
  · rw [hW.2 z] at hp
    exact hp
theorem sr_xread {post : Int32 → Prop} {st wx jo : Nat → Int32} {i j w : Nat} (hi : i < 2) (hj : j < 16) (hw : w < 4) (hp : post (wx (4 * (16 * i + j) + w))) : wpX_read post (st, wx, jo) (nI i) (nI j) (nI w) := by
  unfold wpX_read wpX_wordIndex
  dsimp only
  rw [sr_ix, sr_jx, nI_clamp (by omega)]
  refine sr_xpg1 hi hj ?_
  refine br_f sr_10 ?_
  refine sr_xwo1 hw ?_
  exact br_f sr_10 ⟨vp_in_nI (by omega) (by decide), hp⟩
theorem sr_yw {post : Int32 → SY → Prop} {st wy jo st' wy' jo' : Nat → Int32} {r x : Int32} {i j w : Nat} (hi : i < 2) (hj : j < 16) (hw : w < 4)
    (ho : ∀ post' : Int32 → SY → Prop, post' r (st', wy', jo') → wpY_own post' (st, wy, jo) (nI i) (nI j))
    (h0 : r = 0 → post r (st', upd wy' (4 * (16 * i + j) + w) x, jo')) (h1 : ¬ r = 0 → post r (st', wy', jo')) : wpY_write post (st, wy, jo) (nI i) (nI j) (nI w) x := by
  unfold wpY_write
  dsimp only
  refine sr_ypg1 hi hj ?_
  refine br_f sr_10 (br_f (nI_pos (by omega)) (br_t (nI_le (b := 3) (by omega) (by decide)) ?_))
  refine ho _ ?_
  dsimp only
  rw [sr_ywix hi hj hw]
  refine br_c (fun z => ⟨?_, nm_e (h0 z)⟩) h1
  rw [sr_iy, sr_jy]
  exact vp_in_nI (by omega) (by decide)
theorem sr_xw {post : Int32 → SX → Prop} {st wx jo st' wx' jo' : Nat → Int32} {r x : Int32} {i j w : Nat} (hi : i < 2) (hj : j < 16) (hw : w < 4)
    (ho : ∀ post' : Int32 → SX → Prop, post' r (st', wx', jo') → wpX_makeOwn post' (st, wx, jo) (nI i) (nI j))
    (h0 : r = 0 → post r (st', upd wx' (4 * (16 * i + j) + w) x, jo')) (h1 : ¬ r = 0 → post r (st', wx', jo')) : wpX_write post (st, wx, jo) (nI i) (nI j) (nI w) x := by
  unfold wpX_write wpX_wordIndex
  dsimp only
  refine sr_xpg1 hi hj ?_
  refine br_f sr_10 ?_
  refine sr_xwo1 hw ?_
  refine br_f sr_10 ?_
  refine ho _ ?_
  dsimp only
  rw [sr_ix, sr_jx, nI_clamp (by omega)]
  exact br_c (fun z => ⟨vp_in_nI (by omega) (by decide), nm_e (h0 z)⟩) h1
/-! split -/
theorem sr_y72 {post : Int32 → SY → Prop} {J : Int32 → (Nat → Int32) → (Nat → Int32) → (Nat → Int32) → Prop} {x1 : Int32} {st wy jo : Nat → Int32} {v a b : Nat} (ha : a < 32) (hb : b < 32) (h : J (nI (v + 1)) st (sr_fill wy (4 * b) 4 (fun w => wy (4 * a + w))) jo) :
    ∀ d w : Nat, w + d = 4 → wY_split_72 post J x1 (nI v) (nI a) (nI b) (d + 1) (nI w) st (sr_fill wy (4 * b) w (fun w => wy (4 * a + w))) jo := by
  intro d
  induction d with
  | zero =>
    intro w hw
    obtain rfl : w = 4 := by omega
    exact br_t (nI_le (a := 4) (by omega) (by decide)) (nm_r (nI_1 v) h)
  | succ d ih =>
    intro w hw
    have e : upd (sr_fill wy (4 * b) w (fun w => wy (4 * a + w))) (4 * nI b + nI w).toNatClampNeg (sr_fill wy (4 * b) w (fun w => wy (4 * a + w)) (4 * nI a + nI w).toNatClampNeg) = sr_fill wy (4 * b) (w + 1) (fun w => wy (4 * a + w)) := by
      rw [sr_jy, sr_jy, nI_clamp (by omega), nI_clamp (by omega), sr_fout (by omega)]
      exact sr_fs wy (4 * b) w (fun w => wy (4 * a + w))
    exact br_f (nI_ge (b := 4) (by omega) (by decide)) ⟨pk_in (4 * a + w) 128 (by omega) (sr_jy a w), pk_in (4 * b + w) 128 (by omega) (sr_jy b w), nm_r e (nm_r (nI_1 w) (ih (w + 1) (by omega)))⟩
theorem sr_split {i q : Nat} (hiq : i + q = 1) : ∀ d j : Nat, j + d = 16 → ∀ st jo wx wy : Nat → Int32, sr_R st jo wx wy →
    ∃ st' jo' wx' wy' : Nat → Int32, sr_R st' jo' wx' wy' ∧
      (∀ post : Int32 → SX → Prop, post (nI (sr_pc st i 16)) (st', wx', jo') → wX_split_13 post (nI i) (d + 1) (nI (sr_pc st i j)) (nI j) st wx jo) ∧
      (∀ post : Int32 → SY → Prop, post (nI (sr_pc st i 16)) (st', wy', jo') → wY_split_13 post (nI i) (d + 1) (nI j) st wy jo) := by
  intro d
  induction d with
  | zero =>
    intro j hj st jo wx wy h
    obtain rfl : j = 16 := by omega
    refine ⟨st, jo, wx, wy, h, fun post hp => br_t (nI_le (a := 16) (by omega) (by decide)) hp, fun post hp => br_t (nI_le (a := 16) (by omega) (by decide)) ?_⟩
    refine sr_ypres (by omega) ?_
    exact hp
  | succ d ih =>
    intro j hj st jo wx wy h
    have hi : i < 2 := by omega
    have hq : q < 2 := by omega
    have hj' : j < 16 := by omega
    by_cases z : st (16 * i + j) = 0
    · obtain ⟨st', jo', wx', wy', hR, hX, hY⟩ := ih (j + 1) (by omega) (upd st (16 * q + j) 0) (upd jo j 0) (sr_fill wx (4 * (16 * q + j)) 4 (fun _ => 0)) (sr_fill wy (4 * (16 * q + j)) 4 (fun w => wy (4 * (16 * i + j) + w))) (sr_any (sr_gone h hq hj') pk_us)
      have e16 : sr_pc (upd st (16 * q + j) 0) i 16 = sr_pc st i 16 := sr_pce 16 (fun v hv => pk_un (by omega))
      have ej : sr_pc (upd st (16 * q + j) 0) i (j + 1) = sr_pc st i j := by
        rw [sr_pce (j + 1) (fun v hv => pk_un (by omega)), sr_pcs, sr_b0 z]
        rfl
      have z1 : upd st (16 * q + j) 0 (16 * i + j) = 0 := by
        rw [pk_un (by omega)]
        exact z
      rw [e16, ej] at hX
      rw [e16] at hY
      refine ⟨st', jo', wx', wy', hR, fun post hp => ?_, fun post hp => ?_⟩
      · refine br_f (nI_ge (b := 16) hj' (by decide)) ?_
        rw [sr_oth hiq]
        refine sr_xab hq hj' ?_
        dsimp only
        refine sr_xps hi hj' (fun _ => ?_) (fun n => absurd z1 n)
        exact br_t rfl (nm_r (nI_1 j) (hX post hp))
      · have e4 : 16 * (1 - nI i) + nI j = nI (16 * q + j) := by
          rw [sr_oth hiq, sr_iy]
        refine br_f (nI_ge (b := 16) hj' (by decide)) (nm_r (sr_iy i j) (nm_r e4 ⟨vp_in_nI (by omega) (by decide), vp_in_nI (by omega) (by decide), nm_r (e' := upd st (16 * q + j) 0) ?_ ⟨vp_in_nI (by omega) (by decide), ?_⟩⟩))
        · rw [nI_clamp (n := 16 * q + j) (by omega), nI_clamp (n := 16 * i + j) (by omega), z]
        · rw [nI_clamp (n := 16 * i + j) (by omega)]
          refine br_t z1 ⟨vp_in_nI hj' (by decide), nm_r (e' := upd jo j 0) ?_ ⟨5, ?_⟩⟩
          · rw [nI_clamp (by omega), sr_n0]
          · have w := sr_y72 (post := post) (J := wY_split_13 post (nI i) (d + 1)) (x1 := nI i) (st := upd st (16 * q + j) 0) (wy := wy) (jo := upd jo j 0) (v := j) (a := 16 * i + j) (b := 16 * q + j) (by omega) (by omega) (hY post hp) 4 0 rfl
            rw [sr_f0] at w
            exact w
    · obtain ⟨st', jo', wx', wy', hR, hX, hY⟩ := ih (j + 1) (by omega) _ _ _ _ (sr_share h hiq hj' z)
      have e16 : sr_pc (upd st (16 * q + j) (st (16 * i + j))) i 16 = sr_pc st i 16 := sr_pce 16 (fun v hv => pk_un (by omega))
      have ej : sr_pc (upd st (16 * q + j) (st (16 * i + j))) i (j + 1) = sr_pc st i j + 1 := by
        rw [sr_pce (j + 1) (fun v hv => pk_un (by omega)), sr_pcs, sr_b1 z]
      have z1 : ∀ x : Int32, upd st (16 * q + j) x (16 * i + j) = st (16 * i + j) := fun x => pk_un (by omega)
      rw [e16, ej] at hX
      rw [e16] at hY
      refine ⟨st', jo', wx', wy', hR, fun post hp => ?_, fun post hp => ?_⟩
      · refine br_f (nI_ge (b := 16) hj' (by decide)) ?_
        rw [sr_oth hiq]
        refine sr_xab hq hj' ?_
        dsimp only
        refine sr_xps hi hj' (fun n => absurd ((z1 0).symm.trans n) z) (fun _ => ?_)
        refine br_f sr_10 ?_
        refine sr_xsh hiq hj' ?_
        dsimp only
        have ew : sr_fill (sr_fill wx (4 * (16 * q + j)) 4 (fun _ => 0)) (4 * (16 * q + j)) 4 (fun w => sr_fill wx (4 * (16 * q + j)) 4 (fun _ => 0) (4 * (16 * i + j) + w)) = sr_fill wx (4 * (16 * q + j)) 4 (fun w => wx (4 * (16 * i + j) + w)) := by
          rw [sr_ff]
          exact sr_fe (fun w hw => sr_fout (by omega))
        rw [z1, sr_uu, sr_uu, ew]
        exact nm_r (nI_1 _) (nm_r (nI_1 j) (hX post hp))
      · have e4 : 16 * (1 - nI i) + nI j = nI (16 * q + j) := by
          rw [sr_oth hiq, sr_iy]
        refine br_f (nI_ge (b := 16) hj' (by decide)) (nm_r (sr_iy i j) (nm_r e4 ⟨vp_in_nI (by omega) (by decide), vp_in_nI (by omega) (by decide), nm_r (e' := upd st (16 * q + j) (st (16 * i + j))) ?_ ⟨vp_in_nI (by omega) (by decide), ?_⟩⟩))
        · rw [nI_clamp (n := 16 * q + j) (by omega), nI_clamp (n := 16 * i + j) (by omega)]
        · rw [nI_clamp (n := 16 * i + j) (by omega)]
          refine br_f (fun n => z ((z1 _).symm.trans n)) ⟨vp_in_nI hj' (by decide), nm_r (e' := upd jo j 1) ?_ ⟨5, ?_⟩⟩
          · rw [nI_clamp (by omega), sr_n1]
          · have w := sr_y72 (post := post) (J := wY_split_13 post (nI i) (d + 1)) (x1 := nI i) (st := upd st (16 * q + j) (st (16 * i + j))) (wy := wy) (jo := upd jo j 1) (v := j) (a := 16 * i + j) (b := 16 * q + j) (by omega) (by omega) (hY post hp) 4 0 rfl
            rw [sr_f0] at w
            exact w
/-! unmap, unmapRange -/
theorem sr_xun {post : Int32 → SX → Prop} {st wx jo : Nat → Int32} {i j : Nat} (hi : i < 2) (hj : j < 16) (h0 : st (16 * i + j) = 0 → post (-3) (st, wx, jo)) (h1 : ¬ st (16 * i + j) = 0 → post 0 (upd st (16 * i + j) 0, sr_fill wx (4 * (16 * i + j)) 4 (fun _ => 0), upd jo j 0)) : wpX_unmap post (st, wx, jo) (nI i) (nI j) := by
  unfold wpX_unmap
  dsimp only
  refine sr_xpg1 hi hj ?_
  refine br_f sr_10 ?_
  refine sr_xps hi hj (fun z => br_t rfl (h0 z)) (fun z => ?_)
  refine br_f sr_10 ?_
  refine sr_xab hi hj ?_
  exact h1 z
theorem sr_yun {post : Int32 → SY → Prop} {st wy jo : Nat → Int32} {i j : Nat} (hi : i < 2) (hj : j < 16) (h0 : st (16 * i + j) = 0 → post (-3) (st, wy, jo)) (h1 : ¬ st (16 * i + j) = 0 → post 0 (upd st (16 * i + j) 0, wy, upd jo j 0)) : wpY_unmap post (st, wy, jo) (nI i) (nI j) := by
  unfold wpY_unmap
  dsimp only
  refine sr_ypg1 hi hj ?_
  refine br_f sr_10 ⟨pk_in (16 * i + j) 32 (by omega) (sr_iy i j), ?_⟩
  rw [sr_iy, nI_clamp (n := 16 * i + j) (by omega), nI_clamp (n := j) (by omega), sr_n0]
  exact br_c h0 (fun z => ⟨vp_in_nI (by omega) (by decide), nm_e ⟨vp_in_nI hj (by decide), nm_e (h1 z)⟩⟩)
theorem sr_m30 : ¬ (-3 : Int32) = 0 := by decide
theorem sr_range {i t : Nat} (hi : i < 2) (ht : t < 16) : ∀ d j : Nat, t + 1 ≤ j + d → j ≤ 16 → ∀ (c : Nat) (st jo wx wy : Nat → Int32), sr_R st jo wx wy →
    ∃ (c' : Nat) (st' jo' wx' wy' : Nat → Int32), sr_R st' jo' wx' wy' ∧
      (∀ post : Int32 → SX → Prop, post (nI c') (st', wx', jo') → wX_unmapRange_23 post (nI i) (nI t) (d + 1) (nI c) (nI j) st wx jo) ∧
      (∀ post : Int32 → SY → Prop, post (nI c') (st', wy', jo') → wY_unmapRange_26 post (nI i) (nI t) (d + 1) (nI c) (nI j) st wy jo) := by
  intro d
  induction d with
  | zero =>
    intro j hj hj2 c st jo wx wy h
    have hl : nI t < nI j := nI_lt (by omega) (by omega)
    exact ⟨c, st, jo, wx, wy, h, fun post hp => br_t hl hp, fun post hp => br_t hl hp⟩
  | succ d ih =>
    intro j hj hj2 c st jo wx wy h
    by_cases g : t < j
    · have hl : nI t < nI j := nI_lt g (by omega)
      exact ⟨c, st, jo, wx, wy, h, fun post hp => br_t hl hp, fun post hp => br_t hl hp⟩
    · have hl : ¬ nI t < nI j := nI_nlt (by omega) (by omega)
      have hj' : j < 16 := by omega
      by_cases z : st (16 * i + j) = 0
      · obtain ⟨c', st', jo', wx', wy', hR, hX, hY⟩ := ih (j + 1) (by omega) (by omega) c st jo wx wy h
        refine ⟨c', st', jo', wx', wy', hR, fun post hp => ?_, fun post hp => ?_⟩
        · refine br_f hl ?_
          refine sr_xps hi hj' (fun _ => ?_) (fun n => absurd z n)
          exact br_t rfl (nm_r (nI_1 j) (hX post hp))
        · refine br_f hl ?_
          refine sr_yun hi hj' (fun _ => ?_) (fun n => absurd z n)
          exact br_f sr_m30 (nm_r (nI_1 j) (hY post hp))
      · obtain ⟨c', st', jo', wx', wy', hR, hX, hY⟩ := ih (j + 1) (by omega) (by omega) (c + 1) _ _ _ _ (sr_gone h hi hj')
        refine ⟨c', st', jo', wx', wy', hR, fun post hp => ?_, fun post hp => ?_⟩
        · refine br_f hl ?_
          refine sr_xps hi hj' (fun n => absurd n z) (fun _ => ?_)
          refine br_f sr_10 ?_
          refine sr_xab hi hj' ?_
          exact nm_r (nI_1 c) (nm_r (nI_1 j) (hX post hp))
        · refine br_f hl ?_
          refine sr_yun hi hj' (fun n => absurd n z) (fun _ => ?_)
          exact br_t rfl (nm_r (nI_1 c) (nm_r (nI_1 j) (hY post hp)))
/-! copy -/
theorem sr_Rfill {st jo wx wy g : Nat → Int32} {b : Nat} (h : sr_R st jo wx wy) (hz : ¬ st b = 0) : ∀ n, n ≤ 4 → sr_R st jo (sr_fill wx (4 * b) n g) (sr_fill wy (4 * b) n g) := by
  intro n
  induction n with
  | zero =>
    intro _
    rw [sr_f0, sr_f0]
    exact h
  | succ n ih =>
    intro hn
    rw [← sr_fs, ← sr_fs]
    exact sr_word (ih (by omega)) (by omega) hz
theorem sr_y26 {post : Int32 → SY → Prop} {st jo wx wy : Nat → Int32} {i v u : Nat} (h : sr_R st jo wx wy) (hi : i < 2) (hv : v < 16) (hu : u < 16) (h0 : ¬ st (16 * i + u) = 0) (h2 : ¬ st (16 * i + u) = 2) (hz : jo u = 0)
    (hp : post 0 (st, sr_fill wy (4 * (16 * i + u)) 4 (fun w => wx (4 * (16 * i + v) + w)), jo)) :
    ∀ d w : Nat, w + d = 4 → wY_copy_26 post (nI i) (nI v) (nI u) (d + 1) 0 (nI w) st (sr_fill wy (4 * (16 * i + u)) w (fun w => wx (4 * (16 * i + v) + w))) jo := by
  intro d
  induction d with
  | zero =>
    intro w hw
    obtain rfl : w = 4 := by omega
    exact br_t (nI_le (a := 4) (by omega) (by decide)) hp
  | succ d ih =>
    intro w hw
    have hr := sr_Rfill (g := fun w => wx (4 * (16 * i + v) + w)) h h0 w (by omega)
    refine br_f (nI_ge (b := 4) (by omega) (by decide)) (br_t rfl ?_)
    refine sr_yread hr hi hv (by omega) ?_
    rw [sr_fout (by omega)]
    refine sr_yw hi hu (by omega) (fun post' hp' => sr_yoD hi hu h2 h0 hz hp') (fun _ => ?_) (fun n => absurd rfl n)
    dsimp only
    refine nm_r (nI_1 w) ?_
    have q := ih (w + 1) (by omega)
    rw [← sr_fs] at q
    exact q
/-! digest -/
theorem sr_yd24 {post : Int32 → Prop} {J : Int32 → Int32 → Prop} {st jo wx wy : Nat → Int32} (h : sr_R st jo wx wy) {i v : Nat} (hi : i < 2) (hv : v < 16) (hJ : J (sr_dg (fun n => wx (64 * i + n)) (4 * v + 4)) (nI (v + 1))) :
    ∀ d w : Nat, w + d = 4 → wY_digest_24 post J (nI i) (nI v) st wy jo (d + 1) (sr_dg (fun n => wx (64 * i + n)) (4 * v + w)) (nI w) := by
  intro d
  induction d with
  | zero =>
    intro w hw
    obtain rfl : w = 4 := by omega
    exact br_t (nI_le (a := 4) (by omega) (by decide)) (nm_r (nI_1 v) hJ)
  | succ d ih =>
    intro w hw
    refine br_f (nI_ge (b := 4) (by omega) (by decide)) ?_
    refine sr_yread h hi hv (by omega) ?_
    have e : sr_dg (fun n => wx (64 * i + n)) (4 * v + w) + wx (4 * (16 * i + v) + w) * (4 * nI v + nI w + 1) = sr_dg (fun n => wx (64 * i + n)) (4 * v + (w + 1)) := by
      rw [sr_jy, nI_1, show 4 * (16 * i + v) + w = 64 * i + (4 * v + w) by omega]
      rfl
    exact nm_r e (nm_r (nI_1 w) (ih (w + 1) (by omega)))
theorem sr_yd15 {post : Int32 → Prop} {st jo wx wy : Nat → Int32} (h : sr_R st jo wx wy) {i : Nat} (hi : i < 2) (hp : post (sr_dg (fun n => wx (64 * i + n)) 64)) :
    ∀ d v : Nat, v + d = 16 → wY_digest_15 post (nI i) st wy jo (d + 1) (sr_dg (fun n => wx (64 * i + n)) (4 * v)) (nI v) := by
  intro d
  induction d with
  | zero =>
    intro v hv
    obtain rfl : v = 16 := by omega
    exact br_t (nI_le (a := 16) (by omega) (by decide)) hp
  | succ d ih =>
    intro v hv
    refine br_f (nI_ge (b := 16) (by omega) (by decide)) ⟨5, ?_⟩
    exact sr_yd24 h hi (by omega) (ih (v + 1) (by omega)) 4 0 rfl
theorem sr_ydg {post : Int32 → Prop} {st jo wx wy : Nat → Int32} (h : sr_R st jo wx wy) {i : Nat} (hi : i < 2) (hp : post (sr_dg (fun n => wx (64 * i + n)) 64)) : wpY_digest post (st, wy, jo) (nI i) :=
  br_f (nI_pos (by omega)) (br_t (nI_le (b := 1) (by omega) (by decide)) ⟨17, sr_yd15 h hi hp 16 0 rfl⟩)
end
section
/-! what is owed -/
/-- the same states and sharings on both sides; the component's words are the reference's where the page is present, zeros where it is absent; no more different pages than frames -/
def i_Rel (_ : Nat) (u : SX) (v : SY) : Prop := u.1 = v.1 ∧ u.2.2 = v.2.2 ∧ sr_R u.1 u.2.2 u.2.1 v.2.1
theorem i_up {k : Nat} {u : SX} {v : SY} (h : i_Rel k u v) : i_Rel (k + 5) u v := h
theorem sr_rel {k : Nat} {st jo wx wy : Nat → Int32} (h : sr_R st jo wx wy) : i_Rel k (st, wx, jo) (st, wy, jo) := ⟨rfl, rfl, h⟩
theorem sr_open {k : Nat} {u : SX} {v : SY} (I : i_Rel k u v) : ∃ st jo wx wy : Nat → Int32, u = (st, wx, jo) ∧ v = (st, wy, jo) ∧ sr_R st jo wx wy := by
  obtain ⟨st, wx, jo⟩ := u
  obtain ⟨st2, wy, jo2⟩ := v
  obtain ⟨e1, e2, h⟩ := I
  have e1' : st = st2 := e1
  have e2' : jo = jo2 := e2
  subst e1' e2'
  exact ⟨st, jo, wx, wy, rfl, rfl, h⟩
theorem i_vc0 : wpX_init (fun u => wpY_init (fun v => i_Rel 0 u v)) := sr_rel (k := 0) sr_init
theorem i_vc_touch {k : Nat} {u : SX} {v : SY} (I : i_Rel k u v) (hk : k + 5 ≤ 2560) (v1 : Int32) (v2 : Int32) : wpX_touch (fun r u' => wpY_touch (fun r' v' => r' = r ∧ i_Rel (k + 5) u' v') v v1 v2) u v1 v2 := by
  obtain ⟨st, jo, wx, wy, rfl, rfl, h⟩ := sr_open I
  unfold wpX_touch wpX_pageIndex
  dsimp only
  rcases sr_cpg v1 v2 with b | ⟨i, j, hi, hj, rfl, rfl⟩
  · refine sr_xpg0 b ?_
    refine br_t rfl ?_
    exact sr_ytob b ⟨rfl, sr_rel h⟩
  · rw [sr_ix, nI_clamp (n := 16 * i + j) (by omega)]
    refine sr_xpg1 hi hj ?_
    refine br_f sr_10 ?_
    refine sr_xps hi hj (fun z => ?_) (fun z => ?_)
    · refine br_t rfl ?_
      refine sr_xuse ?_
      rcases sr_full h.2.1 h.2.2.1 with ⟨f1, f2⟩ | ⟨f1, f2, f3⟩
      · refine br_f f2 ?_
        exact sr_ytof hi hj z f1 ⟨rfl, sr_rel h⟩
      · refine br_t f2 ⟨vp_in_nI (by omega) (by decide), nm_e ?_⟩
        exact sr_yton hi hj z f1 ⟨rfl, sr_rel (sr_come h hi hj z f3)⟩
    · refine br_f sr_10 ?_
      exact sr_ytop hi hj z ⟨rfl, sr_rel h⟩
theorem i_vc_write {k : Nat} {u : SX} {v : SY} (I : i_Rel k u v) (hk : k + 5 ≤ 2560) (v1 : Int32) (v2 : Int32) (v3 : Int32) (v4 : Int32) : wpX_write (fun r u' => wpY_write (fun r' v' => r' = r ∧ i_Rel (k + 5) u' v') v v1 v2 v3 v4) u v1 v2 v3 v4 := by
  obtain ⟨st, jo, wx, wy, rfl, rfl, h⟩ := sr_open I
  rcases sr_cpg v1 v2 with b | ⟨i, j, hi, hj, rfl, rfl⟩
  · unfold wpX_write
    dsimp only
    refine sr_xpg0 b ?_
    refine br_t rfl ?_
    unfold wpY_write
    dsimp only
    refine sr_ypg0 b ?_
    exact br_t rfl ⟨rfl, sr_rel h⟩
  · rcases sr_cw v3 with b | ⟨w, hw, rfl⟩
    · unfold wpX_write
      dsimp only
      refine sr_xpg1 hi hj ?_
      refine br_f sr_10 ?_
      refine sr_xwo0 b ?_
      refine br_t rfl ?_
      unfold wpY_write
      dsimp only
      refine sr_ypg1 hi hj ?_
      refine br_f sr_10 ?_
      by_cases c : v3 < 0
      · exact br_t c ⟨rfl, sr_rel h⟩
      · exact br_f c (br_f (sr_ngt (n := 3) (by decide) (b.resolve_left c) c) ⟨rfl, sr_rel h⟩)
    · obtain ⟨r, st', jo', wy', hX, hY, hR, hr⟩ := sr_own h hi hj
      refine sr_xw hi hj hw hX (fun z => ?_) (fun z => ?_)
      · have hn : ¬ st' (16 * i + j) = 0 := by
          rcases hr with a | a
          · exact absurd z a
          · exact a.2.1
        exact sr_yw hi hj hw hY (fun _ => ⟨rfl, sr_rel (sr_word hR hw hn)⟩) (fun n => absurd z n)
      · exact sr_yw hi hj hw hY (fun n => absurd n z) (fun _ => ⟨rfl, sr_rel hR⟩)
theorem i_vc_read {k : Nat} {u : SX} {v : SY} (I : i_Rel k u v) (hk : k + 5 ≤ 2560) (v1 : Int32) (v2 : Int32) (v3 : Int32) : wpX_read (fun r => wpY_read (fun r' => r' = r ∧ i_Rel (k + 5) u v) v v1 v2 v3) u v1 v2 v3 := by
  obtain ⟨st, jo, wx, wy, rfl, rfl, h⟩ := sr_open I
  rcases sr_cpg v1 v2 with b | ⟨i, j, hi, hj, rfl, rfl⟩
  · unfold wpX_read
    dsimp only
    refine sr_xpg0 b ?_
    refine br_t rfl ?_
    unfold wpY_read
    dsimp only
    refine sr_ypg0 b ?_
    exact br_t rfl ⟨rfl, sr_rel h⟩
  · rcases sr_cw v3 with b | ⟨w, hw, rfl⟩
    · unfold wpX_read
      dsimp only
      refine sr_xpg1 hi hj ?_
      refine br_f sr_10 ?_
      refine sr_xwo0 b ?_
      refine br_t rfl ?_
      unfold wpY_read
      dsimp only
      refine sr_ypg1 hi hj ?_
      refine br_f sr_10 ?_
      by_cases c : v3 < 0
      · exact br_t c ⟨rfl, sr_rel h⟩
      · exact br_f c (br_t (sr_gt (n := 3) (by decide) (b.resolve_left c) c) ⟨rfl, sr_rel h⟩)
    · refine sr_xread hi hj hw ?_
      exact sr_yread h hi hj hw ⟨rfl, sr_rel h⟩
theorem i_vc_unmap {k : Nat} {u : SX} {v : SY} (I : i_Rel k u v) (hk : k + 5 ≤ 2560) (v1 : Int32) (v2 : Int32) : wpX_unmap (fun r u' => wpY_unmap (fun r' v' => r' = r ∧ i_Rel (k + 5) u' v') v v1 v2) u v1 v2 := by
  obtain ⟨st, jo, wx, wy, rfl, rfl, h⟩ := sr_open I
  rcases sr_cpg v1 v2 with b | ⟨i, j, hi, hj, rfl, rfl⟩
  · unfold wpX_unmap
    dsimp only
    refine sr_xpg0 b ?_
    refine br_t rfl ?_
    unfold wpY_unmap
    dsimp only
    refine sr_ypg0 b ?_
    exact br_t rfl ⟨rfl, sr_rel h⟩
  · refine sr_xun hi hj (fun z => ?_) (fun z => ?_)
    · exact sr_yun hi hj (fun _ => ⟨rfl, sr_rel h⟩) (fun n => absurd z n)
    · exact sr_yun hi hj (fun n => absurd n z) (fun _ => ⟨rfl, sr_rel (sr_gone h hi hj)⟩)
theorem i_vc_protect {k : Nat} {u : SX} {v : SY} (I : i_Rel k u v) (hk : k + 5 ≤ 2560) (v1 : Int32) (v2 : Int32) (v3 : Int32) : wpX_protect (fun r u' => wpY_protect (fun r' v' => r' = r ∧ i_Rel (k + 5) u' v') v v1 v2 v3) u v1 v2 v3 := by
  obtain ⟨st, jo, wx, wy, rfl, rfl, h⟩ := sr_open I
  unfold wpX_protect wpX_pageIndex wX_protect_53
  dsimp only
  rcases sr_cpg v1 v2 with b | ⟨i, j, hi, hj, rfl, rfl⟩
  · refine sr_xpg0 b ?_
    refine br_t rfl ?_
    unfold wpY_protect
    dsimp only
    refine sr_ypg0 b ?_
    exact br_t rfl ⟨rfl, sr_rel h⟩
  · have hy : ∀ (x r : Int32) (hx : x = 1 ∨ x = 2) (hv : (v3 = 0 ∧ x = 1) ∨ (¬ v3 = 0 ∧ x = 2)) (hz : ¬ st (16 * i + j) = 0) (hr : st (16 * i + j) - 1 = r), wpY_protect (fun r' v' => r' = r ∧ i_Rel (k + 5) (upd st (16 * i + j) x, wx, jo) v') (st, wy, jo) (nI i) (nI j) v3 := by
      intro x r hx hv hz hr
      unfold wpY_protect
      dsimp only
      refine sr_ypg1 hi hj ?_
      refine br_f sr_10 ⟨pk_in (16 * i + j) 32 (by omega) (sr_iy i j), ?_⟩
      rw [sr_iy, nI_clamp (n := 16 * i + j) (by omega)]
      refine nm_e (br_f hz ?_)
      rcases hv with ⟨c, e⟩ | ⟨c, e⟩
      · subst e
        exact br_t c ⟨vp_in_nI (by omega) (by decide), nm_e ⟨hr, sr_rel (sr_mark h (by omega) hz hx)⟩⟩
      · subst e
        exact br_f c ⟨vp_in_nI (by omega) (by decide), nm_e ⟨hr, sr_rel (sr_mark h (by omega) hz hx)⟩⟩
    rw [sr_ix, nI_clamp (n := 16 * i + j) (by omega)]
    refine sr_xpg1 hi hj ?_
    refine br_f sr_10 ?_
    refine sr_xps hi hj (fun z => ?_) (fun z => ?_)
    · refine br_t rfl ?_
      unfold wpY_protect
      dsimp only
      refine sr_ypg1 hi hj ?_
      refine br_f sr_10 ⟨pk_in (16 * i + j) 32 (by omega) (sr_iy i j), ?_⟩
      rw [sr_iy, nI_clamp (n := 16 * i + j) (by omega)]
      exact nm_e (br_t z ⟨rfl, sr_rel h⟩)
    · have h12 : st (16 * i + j) = 1 ∨ st (16 * i + j) = 2 := (h.1 (16 * i + j) (by omega)).resolve_left z
      refine br_f sr_10 ⟨vp_in_nI (by omega) (by decide), nm_e (br_c (fun c => ⟨vp_in_nI (by omega) (by decide), nm_e (br_c (fun e => ?_) (fun e => ?_))⟩) (fun c => ⟨vp_in_nI (by omega) (by decide), nm_e (br_c (fun e => ?_) (fun e => ?_))⟩))⟩
      · exact hy 1 1 (Or.inl rfl) (Or.inl ⟨c, rfl⟩) z (by rw [e]; rfl)
      · exact hy 1 0 (Or.inl rfl) (Or.inl ⟨c, rfl⟩) z (by rw [h12.resolve_right e]; rfl)
      · exact hy 2 1 (Or.inr rfl) (Or.inr ⟨c, rfl⟩) z (by rw [e]; rfl)
      · exact hy 2 0 (Or.inr rfl) (Or.inr ⟨c, rfl⟩) z (by rw [h12.resolve_right e]; rfl)
theorem i_vc_state {k : Nat} {u : SX} {v : SY} (I : i_Rel k u v) (hk : k + 5 ≤ 2560) (v1 : Int32) (v2 : Int32) : wpX_state (fun r => wpY_state (fun r' => r' = r ∧ i_Rel (k + 5) u v) v v1 v2) u v1 v2 := by
  obtain ⟨st, jo, wx, wy, rfl, rfl, h⟩ := sr_open I
  unfold wpX_state wpX_pageIndex
  dsimp only
  rcases sr_cpg v1 v2 with b | ⟨i, j, hi, hj, rfl, rfl⟩
  · refine sr_xpg0 b ?_
    refine br_t rfl ?_
    unfold wpY_state
    dsimp only
    refine sr_ypg0 b ?_
    exact br_t rfl ⟨rfl, sr_rel h⟩
  · rw [sr_ix, nI_clamp (n := 16 * i + j) (by omega)]
    refine sr_xpg1 hi hj ?_
    refine br_f sr_10 ⟨vp_in_nI (by omega) (by decide), ?_⟩
    unfold wpY_state
    dsimp only
    refine sr_ypg1 hi hj ?_
    refine br_f sr_10 ⟨pk_in (16 * i + j) 32 (by omega) (sr_iy i j), ?_⟩
    rw [sr_yix hi hj]
    exact ⟨rfl, sr_rel h⟩
theorem i_vc_shared {k : Nat} {u : SX} {v : SY} (I : i_Rel k u v) (hk : k + 5 ≤ 2560) (v1 : Int32) : wpX_shared (fun r => wpY_shared (fun r' => r' = r ∧ i_Rel (k + 5) u v) v v1) u v1 := by
  obtain ⟨st, jo, wx, wy, rfl, rfl, h⟩ := sr_open I
  unfold wpX_shared
  dsimp only
  rcases sr_cv v1 with b | ⟨j, hj, rfl⟩
  · refine sr_xpn0 b ?_
    refine br_t rfl ?_
    by_cases c : v1 < 0
    · exact br_t c ⟨rfl, sr_rel h⟩
    · exact br_f c (br_t (sr_gt (n := 15) (by decide) (b.resolve_left c) c) ⟨rfl, sr_rel h⟩)
  · refine sr_xpn1 hj ?_
    refine br_f sr_10 ⟨vp_in_nI hj (by decide), br_c (fun z => ?_) (fun z => ?_)⟩
    · exact br_f (nI_pos (by omega)) (br_f (nI_nlt (a := 15) (by omega) (by decide)) ⟨vp_in_nI hj (by decide), br_t z ⟨rfl, sr_rel h⟩⟩)
    · exact br_f (nI_pos (by omega)) (br_f (nI_nlt (a := 15) (by omega) (by decide)) ⟨vp_in_nI hj (by decide), br_f z ⟨rfl, sr_rel h⟩⟩)
theorem i_vc_split {k : Nat} {u : SX} {v : SY} (I : i_Rel k u v) (hk : k + 5 ≤ 2560) (v1 : Int32) : wpX_split (fun r u' => wpY_split (fun r' v' => r' = r ∧ i_Rel (k + 5) u' v') v v1) u v1 := by
  obtain ⟨st, jo, wx, wy, rfl, rfl, h⟩ := sr_open I
  unfold wpX_split
  dsimp only
  rcases sr_cp v1 with b | ⟨i, hi, rfl⟩
  · refine sr_xpr0 b ?_
    refine br_t rfl ?_
    by_cases c : v1 < 0
    · exact br_t c ⟨rfl, sr_rel h⟩
    · exact br_f c (br_f (sr_ngt (n := 1) (by decide) (b.resolve_left c) c) ⟨rfl, sr_rel h⟩)
  · obtain ⟨st', jo', wx', wy', hR, hX, hY⟩ := sr_split (i := i) (q := 1 - i) (by omega) 16 0 rfl st jo wx wy h
    refine sr_xpr1 hi ?_
    refine br_f sr_10 ⟨17, hX _ ?_⟩
    exact br_f (nI_pos (by omega)) (br_t (nI_le (b := 1) (by omega) (by decide)) ⟨17, hY _ ⟨rfl, sr_rel hR⟩⟩)
theorem i_vc_copy {k : Nat} {u : SX} {v : SY} (I : i_Rel k u v) (hk : k + 5 ≤ 2560) (v1 : Int32) (v2 : Int32) (v3 : Int32) : wpX_copy (fun r u' => wpY_copy (fun r' v' => r' = r ∧ i_Rel (k + 5) u' v') v v1 v2 v3) u v1 v2 v3 := by
  obtain ⟨st, jo, wx, wy, rfl, rfl, h⟩ := sr_open I
  unfold wpX_copy
  dsimp only
  rcases sr_cpg v1 v2 with b | ⟨i, j, hi, hj, rfl, rfl⟩
  · refine sr_xpg0 b ?_
    refine br_t rfl ?_
    unfold wpY_copy
    dsimp only
    refine sr_ypg0 b ?_
    exact br_t rfl ⟨rfl, sr_rel h⟩
  · refine sr_xpg1 hi hj ?_
    refine br_f sr_10 ?_
    rcases sr_cv v3 with b | ⟨l, hl, rfl⟩
    · refine sr_xpn0 b ?_
      refine br_t rfl ?_
      unfold wpY_copy
      dsimp only
      refine sr_ypg1 hi hj ?_
      refine br_f sr_10 ?_
      refine sr_ypg0 (Or.inr b) ?_
      exact br_t rfl ⟨rfl, sr_rel h⟩
    · refine sr_xpn1 hl ?_
      refine br_f sr_10 ?_
      obtain ⟨r, st', jo', wy', hX, hY, hR, hr⟩ := sr_own h hi hl
      refine hX _ ?_
      dsimp only
      rcases hr with hr | ⟨rfl, h0, h2, hz⟩
      · refine br_f hr ?_
        unfold wpY_copy
        dsimp only
        refine sr_ypg1 hi hj ?_
        refine br_f sr_10 ?_
        refine sr_ypg1 hi hl ?_
        refine br_f sr_10 ⟨2, br_f (nI_ge (a := 0) (b := 4) (by decide) (by decide)) (br_t rfl ?_)⟩
        refine sr_yread (w := 0) h hi hj (by decide) ?_
        refine sr_yw (w := 0) hi hl (by decide) hY (fun n => absurd n hr) (fun _ => ?_)
        dsimp only
        refine nm_r (nI_1 0) ?_
        exact br_f (nI_ge (a := 1) (b := 4) (by decide) (by decide)) (br_f hr ⟨rfl, sr_rel hR⟩)
      · refine br_t rfl ?_
        refine sr_xcw hi hj hi hl ?_
        dsimp only
        unfold wpY_copy
        dsimp only
        refine sr_ypg1 hi hj ?_
        refine br_f sr_10 ?_
        refine sr_ypg1 hi hl ?_
        refine br_f sr_10 ⟨5, br_f (nI_ge (a := 0) (b := 4) (by decide) (by decide)) (br_t rfl ?_)⟩
        refine sr_yread (w := 0) h hi hj (by decide) ?_
        refine sr_yw (w := 0) hi hl (by decide) hY (fun _ => ?_) (fun n => absurd rfl n)
        dsimp only
        refine nm_r (nI_1 0) ?_
        have q := sr_y26 (post := fun r' v' => r' = 0 ∧ i_Rel (k + 5) (st', sr_fill wx (4 * (16 * i + l)) 4 (fun w => wx (4 * (16 * i + j) + w)), jo') v') hR hi hj hl h0 h2 hz ⟨rfl, sr_rel (sr_Rfill hR h0 4 (by decide))⟩ 3 1 rfl
        have e := sr_fs wy' (4 * (16 * i + l)) 0 (fun w => wx (4 * (16 * i + j) + w))
        rw [sr_f0] at e
        rw [← e] at q
        exact q
theorem i_vc_unmapRange {k : Nat} {u : SX} {v : SY} (I : i_Rel k u v) (hk : k + 5 ≤ 2560) (v1 : Int32) (v2 : Int32) (v3 : Int32) : wpX_unmapRange (fun r u' => wpY_unmapRange (fun r' v' => r' = r ∧ i_Rel (k + 5) u' v') v v1 v2 v3) u v1 v2 v3 := by
  obtain ⟨st, jo, wx, wy, rfl, rfl, h⟩ := sr_open I
  unfold wpX_unmapRange
  dsimp only
  rcases sr_cpg v1 v2 with b | ⟨i, j, hi, hj, rfl, rfl⟩
  · refine sr_xpg0 b ?_
    refine br_t rfl ?_
    unfold wpY_unmapRange
    dsimp only
    refine sr_ypg0 b ?_
    exact br_t rfl ⟨rfl, sr_rel h⟩
  · refine sr_xpg1 hi hj ?_
    refine br_f sr_10 ?_
    rcases sr_cv v3 with b | ⟨l, hl, rfl⟩
    · refine sr_xpn0 b ?_
      refine br_t rfl ?_
      unfold wpY_unmapRange
      dsimp only
      refine sr_ypg1 hi hj ?_
      refine br_f sr_10 ?_
      refine sr_ypg0 (Or.inr b) ?_
      exact br_t rfl ⟨rfl, sr_rel h⟩
    · obtain ⟨c', st', jo', wx', wy', hR, hX, hY⟩ := sr_range hi hl 16 j (by omega) (by omega) 0 st jo wx wy h
      refine sr_xpn1 hl ?_
      refine br_f sr_10 ⟨17, hX _ ?_⟩
      unfold wpY_unmapRange
      dsimp only
      refine sr_ypg1 hi hj ?_
      refine br_f sr_10 ?_
      refine sr_ypg1 hi hl ?_
      exact br_f sr_10 ⟨17, hY _ ⟨rfl, sr_rel hR⟩⟩
theorem i_vc_present {k : Nat} {u : SX} {v : SY} (I : i_Rel k u v) (hk : k + 5 ≤ 2560) (v1 : Int32) : wpX_present (fun r => wpY_present (fun r' => r' = r ∧ i_Rel (k + 5) u v) v v1) u v1 := by
  obtain ⟨st, jo, wx, wy, rfl, rfl, h⟩ := sr_open I
  rcases sr_cp v1 with b | ⟨i, hi, rfl⟩
  · unfold wpX_present
    dsimp only
    refine sr_xpr0 b ?_
    refine br_t rfl ?_
    by_cases c : v1 < 0
    · exact br_t c ⟨rfl, sr_rel h⟩
    · exact br_f c (br_f (sr_ngt (n := 1) (by decide) (b.resolve_left c) c) ⟨rfl, sr_rel h⟩)
  · refine sr_xpres hi ?_
    exact sr_ypres hi ⟨rfl, sr_rel h⟩
theorem i_vc_inUse {k : Nat} {u : SX} {v : SY} (I : i_Rel k u v) (hk : k + 5 ≤ 2560) : wpX_inUse (fun r => wpY_inUse (fun r' => r' = r ∧ i_Rel (k + 5) u v) v) u := by
  obtain ⟨st, jo, wx, wy, rfl, rfl, h⟩ := sr_open I
  refine sr_xuse ?_
  exact sr_yuse ⟨rfl, sr_rel h⟩
theorem i_vc_digest {k : Nat} {u : SX} {v : SY} (I : i_Rel k u v) (hk : k + 5 ≤ 2560) (v1 : Int32) : wpX_digest (fun r => wpY_digest (fun r' => r' = r ∧ i_Rel (k + 5) u v) v v1) u v1 := by
  obtain ⟨st, jo, wx, wy, rfl, rfl, h⟩ := sr_open I
  rcases sr_cp v1 with b | ⟨i, hi, rfl⟩
  · unfold wpX_digest
    dsimp only
    refine sr_xpr0 b ?_
    refine br_t rfl ?_
    by_cases c : v1 < 0
    · exact br_t c ⟨rfl, sr_rel h⟩
    · exact br_f c (br_f (sr_ngt (n := 1) (by decide) (b.resolve_left c) c) ⟨rfl, sr_rel h⟩)
  · refine sr_xdg hi ?_
    exact sr_ydg h hi ⟨rfl, sr_rel h⟩
end
