theorem pk_us {f : Nat → Int32} {k : Nat} {x : Int32} : upd f k x k = x := if_pos rfl
theorem pk_un {f : Nat → Int32} {k j : Nat} {x : Int32} (h : j ≠ k) : upd f k x j = f j := if_neg h
theorem pk_sub {a b : Nat} (h : b ≤ a) : nI a - nI b = nI (a - b) := by
  obtain ⟨c, rfl⟩ : ∃ c, a = c + b := ⟨a - b, by omega⟩
  rw [← nI_add, Int32.add_sub_cancel, Nat.add_sub_cancel]
theorem pk_m1 (n : Nat) : nI (n + 1) + (-1) = nI n := by
  rw [← nI_1, Int32.add_assoc, show (1 : Int32) + (-1) = 0 from rfl, Int32.add_zero]
theorem pk_mul (a b : Nat) : nI a * nI b = nI (a * b) := (Int32.ofNat_mul a b).symm
theorem pk_ix (x : Int32) {n : Nat} (hn : n < 2 ^ 31) : x < 0 ∨ nI n ≤ x ∨ ∃ j : Nat, j < n ∧ x = nI j := by
  by_cases h : x < 0
  · exact Or.inl h
  · obtain ⟨j, hj, rfl⟩ := nI_of h
    by_cases h2 : j < n
    · exact Or.inr (Or.inr ⟨j, h2, rfl⟩)
    · exact Or.inr (Or.inl (nI_le (by omega) hj))
theorem pk_le {x y : Int32} {A B : Prop} (a b : Nat) (f : a ≤ b → A) (g : b < a → B) (hx : x = nI a := by rfl) (hy : y = nI b := by rfl) (ha : a < 2 ^ 31 := by omega) (hb : b < 2 ^ 31 := by omega) : (x ≤ y → A) ∧ (¬ x ≤ y → B) := by
  subst hx hy
  rw [nI_leI ha hb]
  exact ⟨f, fun z => g (by omega)⟩
theorem pk_lt {x y : Int32} {A B : Prop} (a b : Nat) (f : a < b → A) (g : b ≤ a → B) (hx : x = nI a := by rfl) (hy : y = nI b := by rfl) (ha : a < 2 ^ 31 := by omega) (hb : b < 2 ^ 31 := by omega) : (x < y → A) ∧ (¬ x < y → B) := by
  subst hx hy
  rw [nI_ltI ha hb]
  exact ⟨f, fun z => g (by omega)⟩
theorem pk_eq {x y : Int32} {A B : Prop} (a b : Nat) (f : a = b → A) (g : a ≠ b → B) (hx : x = nI a := by rfl) (hy : y = nI b := by rfl) (ha : a < 2 ^ 31 := by omega) (hb : b < 2 ^ 31 := by omega) : (x = y → A) ∧ (¬ x = y → B) := by
  subst hx hy
  rw [nI_eq ha hb]
  exact ⟨f, g⟩
theorem pk_in {x : Int32} (n N : Nat) (h : n < N) (hx : x = nI n := by rfl) (hN : N < 2 ^ 31 := by omega) : vp_in x N := by
  subst hx
  exact vp_in_nI h hN
theorem pk_cl {x : Int32} (n : Nat) (hx : x = nI n := by rfl) (h : n < 2 ^ 31 := by omega) : x.toNatClampNeg = n := by
  subst hx
  exact nI_clamp h
def sr_b (x : Int32) : Nat := if x = 0 then 0 else 1
theorem sr_b0 {x : Int32} (h : x = 0) : sr_b x = 0 := if_pos h
theorem sr_b1 {x : Int32} (h : ¬ x = 0) : sr_b x = 1 := if_neg h
theorem sr_bl (x : Int32) : sr_b x ≤ 1 := by
  by_cases h : x = 0
  · rw [sr_b0 h]; omega
  · rw [sr_b1 h]; omega
/-- how many of the first n are not zero -/
def sr_cnt (f : Nat → Int32) : Nat → Nat
  | 0 => 0
  | n + 1 => sr_cnt f n + sr_b (f n)
theorem sr_cs (f : Nat → Int32) (n : Nat) : sr_cnt f (n + 1) = sr_cnt f n + sr_b (f n) := rfl
theorem sr_cle (f : Nat → Int32) (n : Nat) : sr_cnt f n ≤ n := by
  induction n with
  | zero => exact Nat.le_refl 0
  | succ n ih =>
    have := sr_bl (f n)
    rw [sr_cs]; omega
theorem sr_cext {f g : Nat → Int32} (n : Nat) (h : ∀ i, i < n → f i = g i) : sr_cnt f n = sr_cnt g n := by
  induction n with
  | zero => rfl
  | succ n ih => rw [sr_cs, sr_cs, ih (fun i hi => h i (by omega)), h n (by omega)]
theorem sr_cout {f : Nat → Int32} {k : Nat} {x : Int32} (n : Nat) (h : n ≤ k) : sr_cnt (upd f k x) n = sr_cnt f n :=
  sr_cext n (fun i hi => pk_un (by omega))
theorem sr_cupd {f : Nat → Int32} {k : Nat} {x : Int32} (n : Nat) (h : k < n) : sr_cnt (upd f k x) n + sr_b (f k) = sr_cnt f n + sr_b x := by
  induction n with
  | zero => omega
  | succ n ih =>
    rw [sr_cs, sr_cs]
    by_cases e : n = k
    · subst e
      rw [sr_cout n (Nat.le_refl n), pk_us]; omega
    · rw [pk_un e]
      have := ih (by omega)
      omega
theorem sr_cadd (f : Nat → Int32) (m n : Nat) : sr_cnt f (m + n) = sr_cnt f m + sr_cnt (fun i => f (m + i)) n := by
  induction n with
  | zero => rfl
  | succ n ih =>
    show sr_cnt f (m + n) + sr_b (f (m + n)) = sr_cnt f m + (sr_cnt (fun i => f (m + i)) n + sr_b (f (m + n)))
    omega
theorem sr_cmono {f g : Nat → Int32} (n : Nat) (h : ∀ i, i < n → ¬ f i = 0 → ¬ g i = 0) : sr_cnt f n ≤ sr_cnt g n := by
  induction n with
  | zero => exact Nat.le_refl 0
  | succ n ih =>
    have i1 := ih (fun i hi => h i (by omega))
    rw [sr_cs, sr_cs]
    by_cases z : f n = 0
    · rw [sr_b0 z]; omega
    · rw [sr_b1 z, sr_b1 (h n (by omega) z)]; omega
/-- f with n cells from b on written over by g -/
def sr_fill (f : Nat → Int32) (b n : Nat) (g : Nat → Int32) : Nat → Int32 := fun i => if b ≤ i ∧ i < b + n then g (i - b) else f i
theorem sr_fin {f g : Nat → Int32} {b n : Nat} (j : Nat) (h : j < n) : sr_fill f b n g (b + j) = g j := by
  show (if b ≤ b + j ∧ b + j < b + n then g (b + j - b) else f (b + j)) = g j
  rw [if_pos (by omega), Nat.add_sub_cancel_left]
theorem sr_fout {f g : Nat → Int32} {b n i : Nat} (h : i < b ∨ b + n ≤ i) : sr_fill f b n g i = f i := if_neg (by omega)
theorem sr_f0 (f : Nat → Int32) (b : Nat) (g : Nat → Int32) : sr_fill f b 0 g = f := funext fun i => if_neg (by omega)
theorem sr_fs (f : Nat → Int32) (b n : Nat) (g : Nat → Int32) : upd (sr_fill f b n g) (b + n) (g n) = sr_fill f b (n + 1) g := by
  funext i
  by_cases e : i = b + n
  · subst e; rw [pk_us, sr_fin n (by omega)]
  · rw [pk_un e]
    by_cases h : b ≤ i ∧ i < b + n
    · obtain ⟨j, rfl⟩ : ∃ j, i = b + j := ⟨i - b, by omega⟩
      rw [sr_fin j (by omega), sr_fin j (by omega)]
    · rw [sr_fout (by omega), sr_fout (by omega)]
theorem sr_ff (f : Nat → Int32) (b n : Nat) (g g' : Nat → Int32) : sr_fill (sr_fill f b n g) b n g' = sr_fill f b n g' := by
  funext i
  by_cases h : b ≤ i ∧ i < b + n
  · obtain ⟨j, rfl⟩ : ∃ j, i = b + j := ⟨i - b, by omega⟩
    rw [sr_fin j (by omega), sr_fin j (by omega)]
  · rw [sr_fout (by omega), sr_fout (by omega), sr_fout (by omega)]
theorem sr_fe {f g g' : Nat → Int32} {b n : Nat} (h : ∀ j, j < n → g j = g' j) : sr_fill f b n g = sr_fill f b n g' := by
  funext i
  by_cases q : b ≤ i ∧ i < b + n
  · obtain ⟨j, rfl⟩ : ∃ j, i = b + j := ⟨i - b, by omega⟩
    rw [sr_fin j (by omega), sr_fin j (by omega), h j (by omega)]
  · rw [sr_fout (by omega), sr_fout (by omega)]
theorem sr_uu (f : Nat → Int32) (k : Nat) (x y : Int32) : upd (upd f k x) k y = upd f k y := by
  funext i
  by_cases e : i = k
  · subst e; rw [pk_us, pk_us]
  · rw [pk_un e, pk_un e, pk_un e]
theorem sr_ui {f : Nat → Int32} {k : Nat} {x : Int32} (h : f k = x) : upd f k x = f := by
  funext i
  by_cases e : i = k
  · subst e; rw [pk_us, h]
  · rw [pk_un e]
theorem sr_unn {f : Nat → Int32} {k i : Nat} {x : Int32} (hx : ¬ x = 0) (h : ¬ f i = 0) : ¬ upd f k x i = 0 := by
  by_cases e : i = k
  · subst e; rw [pk_us]; exact hx
  · rw [pk_un e]; exact h
/-! the relation over states, joined, and the words of either side -/
def sr_S (st : Nat → Int32) : Prop := ∀ k, k < 32 → st k = 0 ∨ st k = 1 ∨ st k = 2
def sr_J (st jo : Nat → Int32) : Prop := ∀ v, v < 16 → jo v = 0 ∨ (jo v = 1 ∧ ¬ st v = 0 ∧ ¬ st (16 + v) = 0)
def sr_N (st jo : Nat → Int32) : Prop := sr_cnt st 32 ≤ 16 + sr_cnt jo 16
def sr_W (st wx wy : Nat → Int32) : Prop := ∀ k w, k < 32 → w < 4 → (st k = 0 → wx (4 * k + w) = 0) ∧ (¬ st k = 0 → wx (4 * k + w) = wy (4 * k + w))
def sr_R (st jo wx wy : Nat → Int32) : Prop := sr_S st ∧ sr_J st jo ∧ sr_N st jo ∧ sr_W st wx wy
theorem sr_jp {st jo : Nat → Int32} (h : sr_J st jo) {p v : Nat} (hp : p < 2) (hv : v < 16) : jo v = 0 ∨ (jo v = 1 ∧ ¬ st (16 * p + v) = 0) := by
  rcases h v hv with a | ⟨a, b, c⟩
  · exact Or.inl a
  · refine Or.inr ⟨a, ?_⟩
    by_cases e : p = 0
    · rw [show 16 * p + v = v by omega]; exact b
    · rw [show 16 * p + v = 16 + v by omega]; exact c
theorem sr_jb {st jo : Nat → Int32} (h : sr_J st jo) {p v : Nat} (hp : p < 2) (hv : v < 16) : sr_b (jo v) ≤ sr_b (st (16 * p + v)) := by
  rcases sr_jp h hp hv with a | ⟨_, b⟩
  · rw [sr_b0 a]; omega
  · rw [sr_b1 b]; exact sr_bl _
theorem sr_jz {st jo : Nat → Int32} (h : sr_J st jo) {p v : Nat} (hp : p < 2) (hv : v < 16) (hz : st (16 * p + v) = 0) : jo v = 0 := by
  rcases sr_jp h hp hv with a | ⟨_, b⟩
  · exact a
  · exact absurd hz b
theorem sr_use {st jo : Nat → Int32} (hJ : sr_J st jo) (hN : sr_N st jo) : ∃ m, m ≤ 16 ∧ nI (sr_cnt st 32) - nI (sr_cnt jo 16) = nI m ∧ m + sr_cnt jo 16 = sr_cnt st 32 := by
  have h1 : sr_cnt jo 16 ≤ sr_cnt st 16 := sr_cmono 16 (fun i hi z => by
    rcases hJ i hi with a | ⟨_, b, _⟩
    · exact absurd a z
    · exact b)
  have h2 : sr_cnt st 32 = sr_cnt st 16 + sr_cnt (fun i => st (16 + i)) 16 := sr_cadd st 16 16
  have h3 : sr_cnt st 32 ≤ 16 + sr_cnt jo 16 := hN
  exact ⟨sr_cnt st 32 - sr_cnt jo 16, by omega, pk_sub (by omega), by omega⟩
theorem sr_Su {st : Nat → Int32} {k : Nat} {x : Int32} (h : sr_S st) (hx : x = 0 ∨ x = 1 ∨ x = 2) : sr_S (upd st k x) := fun i hi => by
  by_cases e : i = k
  · subst e; rw [pk_us]; exact hx
  · rw [pk_un e]; exact h i hi
theorem sr_10 : ¬ (1 : Int32) = 0 := by decide
theorem sr_20 : ¬ (2 : Int32) = 0 := by decide
/-- an absent page comes -/
theorem sr_come {st jo wx wy : Nat → Int32} {p v : Nat} (h : sr_R st jo wx wy) (hp : p < 2) (hv : v < 16) (hz : st (16 * p + v) = 0) (hm : sr_cnt st 32 < 16 + sr_cnt jo 16) :
    sr_R (upd st (16 * p + v) 1) jo wx (sr_fill wy (4 * (16 * p + v)) 4 (fun _ => 0)) := by
  obtain ⟨hS, hJ, hN, hW⟩ := h
  refine ⟨sr_Su hS (Or.inr (Or.inl rfl)), ?_, ?_, ?_⟩
  · intro u hu
    rcases hJ u hu with a | ⟨a, b, c⟩
    · exact Or.inl a
    · exact Or.inr ⟨a, sr_unn sr_10 b, sr_unn sr_10 c⟩
  · have e := sr_cupd (f := st) (k := 16 * p + v) (x := 1) 32 (by omega)
    rw [sr_b0 hz, sr_b1 sr_10] at e
    show sr_cnt (upd st (16 * p + v) 1) 32 ≤ 16 + sr_cnt jo 16
    omega
  · intro k w hk hw
    by_cases e : k = 16 * p + v
    · subst e
      rw [pk_us]
      refine ⟨fun z => absurd z sr_10, fun _ => ?_⟩
      rw [sr_fin w hw, (hW _ w hk hw).1 hz]
    · rw [pk_un e, sr_fout (by omega)]
      exact hW k w hk hw
/-- a sharing ends -/
theorem sr_lone {st jo wx wy : Nat → Int32} {v : Nat} (h : sr_R st jo wx wy) (hv : v < 16) (hj : ¬ jo v = 0) (hm : sr_cnt st 32 < 16 + sr_cnt jo 16) :
    sr_R st (upd jo v 0) wx wy := by
  obtain ⟨hS, hJ, hN, hW⟩ := h
  refine ⟨hS, ?_, ?_, hW⟩
  · intro u hu
    by_cases e : u = v
    · subst e; exact Or.inl pk_us
    · rw [pk_un e]; exact hJ u hu
  · have e := sr_cupd (f := jo) (k := v) (x := 0) 16 hv
    rw [sr_b1 hj, sr_b0 rfl] at e
    show sr_cnt st 32 ≤ 16 + sr_cnt (upd jo v 0) 16
    omega
/-- a page goes -/
theorem sr_gone {st jo wx wy : Nat → Int32} {p v : Nat} (h : sr_R st jo wx wy) (hp : p < 2) (hv : v < 16) :
    sr_R (upd st (16 * p + v) 0) (upd jo v 0) (sr_fill wx (4 * (16 * p + v)) 4 (fun _ => 0)) wy := by
  obtain ⟨hS, hJ, hN, hW⟩ := h
  refine ⟨sr_Su hS (Or.inl rfl), ?_, ?_, ?_⟩
  · intro u hu
    by_cases e : u = v
    · subst e; exact Or.inl pk_us
    · rw [pk_un e]
      rcases hJ u hu with a | ⟨a, b, c⟩
      · exact Or.inl a
      · refine Or.inr ⟨a, ?_, ?_⟩
        · rw [pk_un (by omega)]; exact b
        · rw [pk_un (by omega)]; exact c
  · have e1 := sr_cupd (f := st) (k := 16 * p + v) (x := 0) 32 (by omega)
    have e2 := sr_cupd (f := jo) (k := v) (x := 0) 16 hv
    have e3 := sr_jb hJ hp hv
    have e4 : sr_cnt st 32 ≤ 16 + sr_cnt jo 16 := hN
    show sr_cnt (upd st (16 * p + v) 0) 32 ≤ 16 + sr_cnt (upd jo v 0) 16
    omega
  · intro k w hk hw
    by_cases e : k = 16 * p + v
    · subst e
      rw [pk_us]
      exact ⟨fun _ => sr_fin w hw, fun z => absurd rfl z⟩
    · rw [pk_un e, sr_fout (by omega)]
      exact hW k w hk hw
/-- a present page gets a new mark -/
theorem sr_mark {st jo wx wy : Nat → Int32} {k : Nat} {x : Int32} (h : sr_R st jo wx wy) (hk : k < 32) (hz : ¬ st k = 0) (hx : x = 1 ∨ x = 2) :
    sr_R (upd st k x) jo wx wy := by
  obtain ⟨hS, hJ, hN, hW⟩ := h
  have h0 : ¬ x = 0 := by
    rcases hx with e | e
    · rw [e]; exact sr_10
    · rw [e]; exact sr_20
  refine ⟨sr_Su hS (Or.inr hx), ?_, ?_, ?_⟩
  · intro u hu
    rcases hJ u hu with a | ⟨a, b, c⟩
    · exact Or.inl a
    · exact Or.inr ⟨a, sr_unn h0 b, sr_unn h0 c⟩
  · have e1 := sr_cupd (f := st) (k := k) (x := x) 32 hk
    rw [sr_b1 hz, sr_b1 h0] at e1
    have e4 : sr_cnt st 32 ≤ 16 + sr_cnt jo 16 := hN
    show sr_cnt (upd st k x) 32 ≤ 16 + sr_cnt jo 16
    omega
  · intro j w hj hw
    by_cases e : j = k
    · subst e
      rw [pk_us]
      exact ⟨fun z => absurd z h0, fun _ => (hW _ w hj hw).2 hz⟩
    · rw [pk_un e]
      exact hW j w hj hw
/-- a word of a present page is written on both sides -/
theorem sr_word {st jo wx wy : Nat → Int32} {k w : Nat} {x : Int32} (h : sr_R st jo wx wy) (hw : w < 4) (hz : ¬ st k = 0) :
    sr_R st jo (upd wx (4 * k + w) x) (upd wy (4 * k + w) x) := by
  obtain ⟨hS, hJ, hN, hW⟩ := h
  refine ⟨hS, hJ, hN, ?_⟩
  intro j u hj hu
  by_cases e : 4 * j + u = 4 * k + w
  · obtain rfl : j = k := by omega
    obtain rfl : u = w := by omega
    rw [pk_us, pk_us]
    exact ⟨fun z => absurd z hz, fun _ => rfl⟩
  · rw [pk_un e, pk_un e]
    exact hW j u hj hu
/-- what the reference holds of an absent page doesn't count -/
theorem sr_any {st jo wx wy g : Nat → Int32} {k : Nat} (h : sr_R st jo wx wy) (hz : st k = 0) :
    sr_R st jo wx (sr_fill wy (4 * k) 4 g) := by
  obtain ⟨hS, hJ, hN, hW⟩ := h
  refine ⟨hS, hJ, hN, ?_⟩
  intro j u hj hu
  by_cases e : j = k
  · subst e
    exact ⟨(hW j u hj hu).1, fun z => absurd hz z⟩
  · rw [sr_fout (by omega)]
    exact hW j u hj hu
/-- a page is shared with the other process -/
theorem sr_share {st jo wx wy : Nat → Int32} {p q v : Nat} (h : sr_R st jo wx wy) (hpq : p + q = 1) (hv : v < 16) (hz : ¬ st (16 * p + v) = 0) :
    sr_R (upd st (16 * q + v) (st (16 * p + v))) (upd jo v 1) (sr_fill wx (4 * (16 * q + v)) 4 (fun w => wx (4 * (16 * p + v) + w))) (sr_fill wy (4 * (16 * q + v)) 4 (fun w => wy (4 * (16 * p + v) + w))) := by
  obtain ⟨hS, hJ, hN, hW⟩ := h
  have hb : ∀ i, (i = 16 * p + v ∨ i = 16 * q + v) → ¬ upd st (16 * q + v) (st (16 * p + v)) i = 0 := by
    intro i hi
    rcases hi with e | e
    · subst e; exact sr_unn hz hz
    · subst e; rw [pk_us]; exact hz
  refine ⟨sr_Su hS (hS _ (by omega)), ?_, ?_, ?_⟩
  · intro u hu
    by_cases e : u = v
    · subst e
      exact Or.inr ⟨pk_us, hb _ (by omega), hb _ (by omega)⟩
    · rw [pk_un e]
      rcases hJ u hu with a | ⟨a, b, c⟩
      · exact Or.inl a
      · exact Or.inr ⟨a, sr_unn hz b, sr_unn hz c⟩
  · have e1 := sr_cupd (f := st) (k := 16 * q + v) (x := st (16 * p + v)) 32 (by omega)
    have e2 := sr_cupd (f := jo) (k := v) (x := 1) 16 hv
    have e3 := sr_jb hJ (p := q) (by omega) hv
    have e4 : sr_cnt st 32 ≤ 16 + sr_cnt jo 16 := hN
    rw [sr_b1 hz] at e1
    rw [sr_b1 sr_10] at e2
    show sr_cnt (upd st (16 * q + v) (st (16 * p + v))) 32 ≤ 16 + sr_cnt (upd jo v 1) 16
    omega
  · intro k w hk hw
    by_cases e : k = 16 * q + v
    · subst e
      rw [pk_us, sr_fin w hw, sr_fin w hw]
      exact ⟨fun z => absurd z hz, fun _ => (hW _ w (by omega) hw).2 hz⟩
    · rw [pk_un e, sr_fout (by omega), sr_fout (by omega)]
      exact hW k w hk hw
theorem sr_init : sr_R (fun _ => 0) (fun _ => 0) (fun _ => 0) (fun _ => 0) := by
  refine ⟨fun _ _ => Or.inl rfl, fun _ _ => Or.inl rfl, ?_, fun _ _ _ _ => ⟨fun _ => rfl, fun _ => rfl⟩⟩
  show sr_cnt (fun _ => 0) 32 ≤ 16 + sr_cnt (fun _ => 0) 16
  decide +kernel
/-- the sum of the first n words, each times its place -/
def sr_dg (f : Nat → Int32) : Nat → Int32
  | 0 => 0
  | n + 1 => sr_dg f n + f n * nI (n + 1)
/-! indices -/
theorem sr_ix (p v : Nat) : nI p * 16 + nI v = nI (16 * p + v) := by
  show nI p * nI 16 + nI v = nI (16 * p + v)
  rw [pk_mul, nI_add, Nat.mul_comm]
theorem sr_iy (p v : Nat) : 16 * nI p + nI v = nI (16 * p + v) := by
  show nI 16 * nI p + nI v = nI (16 * p + v)
  rw [pk_mul, nI_add]
theorem sr_jx (k w : Nat) : nI k * 4 + nI w = nI (4 * k + w) := by
  show nI k * nI 4 + nI w = nI (4 * k + w)
  rw [pk_mul, nI_add, Nat.mul_comm]
theorem sr_jy (k w : Nat) : 4 * nI k + nI w = nI (4 * k + w) := by
  show nI 4 * nI k + nI w = nI (4 * k + w)
  rw [pk_mul, nI_add]
theorem sr_oth {p q : Nat} (h : p + q = 1) : 1 - nI p = nI q := by
  show nI 1 - nI p = nI q
  rw [pk_sub (by omega)]
  exact congrArg nI (by omega)
