section
def bt (x : Int32) (i : Nat) : Bool := x.toBitVec.getLsbD i
theorem b_ext {x y : Int32} (h : ∀ i, i < 32 → bt x i = bt y i) : x = y := Int32.toBitVec_inj.mp (BitVec.eq_of_getLsbD_eq (fun i hi => h i hi))
theorem b_or (x y : Int32) (i : Nat) : bt (x ||| y) i = (bt x i || bt y i) := by unfold bt; rw [Int32.toBitVec_or, BitVec.getLsbD_or]
theorem b_and (x y : Int32) (i : Nat) : bt (x &&& y) i = (bt x i && bt y i) := by unfold bt; rw [Int32.toBitVec_and, BitVec.getLsbD_and]
theorem b_xor (x y : Int32) (i : Nat) : bt (x ^^^ y) i = (bt x i ^^ bt y i) := by unfold bt; rw [Int32.toBitVec_xor, BitVec.getLsbD_xor]
theorem b_big {x : Int32} {i : Nat} (h : 32 ≤ i) : bt x i = false := BitVec.getLsbD_of_ge _ _ h
theorem b_m1 : ∀ i, i < 32 → bt (-1) i = true := by decide +kernel
theorem b_0 (i : Nat) : bt 0 i = false := BitVec.getLsbD_zero
theorem s_l : ∀ n, n < 32 → ((nI n &&& 31).toBitVec.smod 32).toNat = n := by decide +kernel
theorem b_shl (n : Nat) (hn : n < 32) (x : Int32) {i : Nat} (hi : i < 32) : bt (x <<< (nI n &&& 31)) i = (decide (n ≤ i) && bt x (i - n)) := by
  unfold bt
  rw [Int32.toBitVec_shiftLeft]
  show (x.toBitVec <<< ((nI n &&& 31).toBitVec.smod 32).toNat).getLsbD i = _
  rw [s_l n hn, BitVec.getLsbD_shiftLeft]
  rcases Nat.lt_or_ge i n with h | h
  · simp [h, Nat.not_le.mpr h]
  · simp [hi, h, Nat.not_lt.mpr h]
theorem b_sshr (n : Nat) (hn : n < 32) (x : Int32) {i : Nat} (hi : i < 32) : bt (x >>> (nI n &&& 31)) i = if n + i < 32 then bt x (n + i) else bt x 31 := by
  unfold bt
  rw [Int32.toBitVec_shiftRight]
  show (x.toBitVec.sshiftRight ((nI n &&& 31).toBitVec.smod 32).toNat).getLsbD i = _
  rw [s_l n hn, BitVec.getLsbD_sshiftRight, BitVec.msb_eq_getLsbD_last]
  simp [hi]
/-! one bit of a set, as both texts read it -/
theorem tb_1 (i : Nat) : bt 1 i = decide (i = 0) := by
  rcases Nat.lt_or_ge i 32 with h | h
  · exact (by decide +kernel : ∀ i, i < 32 → bt 1 i = decide (i = 0)) i h
  · rw [b_big h, decide_eq_false (by omega)]
def tb_b (S : Int32) (e : Nat) : Int32 := (S >>> (nI e &&& 31)) &&& 1
theorem tb_val {e : Nat} (he : e < 32) (S : Int32) : tb_b S e = if bt S e = true then 1 else 0 := by
  apply b_ext
  intro i hi
  unfold tb_b
  rw [b_and, b_sshr e he S hi, tb_1]
  by_cases h0 : i = 0
  · subst h0
    rw [if_pos (by omega)]
    cases hb : bt S e <;> simp [hb, b_0, tb_1]
  · rw [decide_eq_false h0, Bool.and_false]
    split
    · rw [tb_1, decide_eq_false h0]
    · rw [b_0]
theorem tb_f {e : Nat} (he : e < 32) {S : Int32} (h : bt S e = false) : tb_b S e = 0 := by
  rw [tb_val he, h]; rfl
theorem tb_t {e : Nat} (he : e < 32) {S : Int32} (h : bt S e = true) : tb_b S e = 1 := by
  rw [tb_val he, h]; rfl
theorem tb_0 {e : Nat} (he : e < 32) (S : Int32) : tb_b S e = 0 ↔ bt S e = false := by
  cases hb : bt S e with
  | false => exact ⟨fun _ => rfl, fun _ => tb_f he hb⟩
  | true =>
    refine ⟨fun z => ?_, fun z => by cases z⟩
    rw [tb_t he hb] at z
    exact absurd z (by decide)
theorem tb_01 {e : Nat} (he : e < 32) (S : Int32) : tb_b S e = 1 ↔ ¬ tb_b S e = 0 := by
  cases hb : bt S e with
  | false => rw [tb_f he hb]; decide
  | true => rw [tb_t he hb]; decide
theorem tb_in {S O : Int32} {j : Nat} (h : (S &&& (O ^^^ (-1))) = 0) (hj : j < 32) (ho : bt O j = false) : bt S j = false := by
  have t : bt (S &&& (O ^^^ (-1))) j = false := by rw [h]; exact b_0 j
  rw [b_and, b_xor, b_m1 j hj, ho] at t
  simpa using t
theorem tb_sl {e i : Nat} (he : e < 32) (hi : i < 32) : bt ((1 : Int32) <<< (nI e &&& 31)) i = decide (i = e) := by
  rw [b_shl e he 1 hi, tb_1]
  by_cases h : i = e
  · subst h; simp
  · rw [decide_eq_false h]
    by_cases h2 : e ≤ i
    · rw [decide_eq_false (show ¬ i - e = 0 by omega), Bool.and_false]
    · rw [decide_eq_false h2, Bool.false_and]
theorem tb_an {e : Nat} (he : e < 32) (O : Int32) : (O &&& ((1 : Int32) <<< (nI e &&& 31))) = 0 ↔ bt O e = false := by
  constructor
  · intro h
    have t : bt (O &&& ((1 : Int32) <<< (nI e &&& 31))) e = false := by rw [h]; exact b_0 e
    rw [b_and, tb_sl he he] at t
    simpa using t
  · intro h
    apply b_ext
    intro i hi
    rw [b_and, tb_sl he hi, b_0]
    by_cases z : i = e
    · subst z; rw [h]; rfl
    · rw [decide_eq_false z, Bool.and_false]
/-- no bit from c to 11 -/
def tb_lo (O : Int32) (c : Nat) : Prop := ∀ j, c ≤ j → j < 12 → bt O j = false
theorem tb_lo0 (c : Nat) : tb_lo 0 c := fun j _ _ => b_0 j
theorem tb_lo_or {O : Int32} {c d e : Nat} (h : tb_lo O c) (hcd : c ≤ d) (he : e < d) (h12 : d ≤ 12) : tb_lo (O ||| ((1 : Int32) <<< (nI e &&& 31))) d := by
  intro j h1 h2
  rw [b_or, h j (by omega) h2, tb_sl (by omega) (by omega), decide_eq_false (by omega)]
  rfl
theorem tb_lo_cl {O : Int32} {c : Nat} (e : Nat) (h : tb_lo O c) : tb_lo (O &&& (((1 : Int32) <<< (nI e &&& 31)) ^^^ (-1))) c := by
  intro j h1 h2
  rw [b_and, h j h1 h2, Bool.false_and]
theorem tb_lo_dr {O : Int32} {c : Nat} (hc : c < 12) (h : tb_lo O (c + 1)) : tb_lo (O &&& (((1 : Int32) <<< (nI c &&& 31)) ^^^ (-1))) c := by
  intro j h1 h2
  rw [b_and]
  by_cases z : j = c
  · subst z
    rw [b_xor, tb_sl (by omega) (by omega), b_m1 j (by omega), decide_eq_true rfl]
    simp
  · rw [h j (by omega) h2, Bool.false_and]
theorem tb_lo_in {S O : Int32} {c : Nat} (ho : tb_lo O c) (h : (S &&& (O ^^^ (-1))) = 0) : tb_lo S c :=
  fun j h1 h2 => tb_in h (by omega) (ho j h1 h2)
end
section
/-! the pure pictures: size, reach, tree, weight, light edges, least, count -/
def tf_sz (S : Int32) : Nat → Int32
  | 0 => 0
  | e + 1 => tf_sz S e + tb_b S e
def tf_in (E : Nat → Int32) (S : Int32) (r : Int32) : Nat → Int32
  | 0 => r
  | e + 1 => if tb_b S e = 0 then tf_in E S r e else if (tf_in E S r e &&& E e) = 0 then tf_in E S r e else tf_in E S r e ||| E e
def tf_out (E : Nat → Int32) (S : Int32) (m : Nat) : Nat → Int32
  | 0 => 1
  | k + 1 => tf_in E S (tf_out E S m k) m
def tf_tree (O : Int32) (E : Nat → Int32) (S : Int32) : Bool :=
  decide ((S &&& (O ^^^ (-1))) = 0) && (decide (tf_sz S 12 = 6) && decide (tf_out E S 12 6 = 127))
def tf_w (A : Nat → Int32) (S : Int32) : Nat → Nat
  | 0 => 0
  | e + 1 => if tb_b S e = 0 then tf_w A S e else tf_w A S e + (A e).toNatClampNeg
def tf_li (O : Int32) (A : Nat → Int32) (l : Int32) : Nat → Int32
  | 0 => 0
  | e + 1 => if tb_b O e = 0 then tf_li O A l e else if l < A e then tf_li O A l e else tf_li O A l e ||| ((1 : Int32) <<< (nI e &&& 31))
def tf_m (g : Nat → Bool) (f : Nat → Nat) : Nat → Option Nat
  | 0 => none
  | s + 1 => if g s = true then (match tf_m g f s with | none => some (f s) | some b => if f s < b then some (f s) else some b) else tf_m g f s
def tf_x : Option Nat → Int32
  | none => -5
  | some n => nI n
def tf_y : Option Nat → Int32
  | none => 100000
  | some n => nI n
def tf_k (g : Nat → Bool) : Nat → Nat
  | 0 => 0
  | s + 1 => if g s = true then tf_k g s + 1 else tf_k g s
/-! a set without bits from c on: the fold over twelve is the fold over c -/
theorem tf_in_c {E : Nat → Int32} {S r : Int32} {c : Nat} (h : tb_lo S c) : ∀ d, c + d ≤ 12 → tf_in E S r (c + d) = tf_in E S r c := by
  intro d
  induction d with
  | zero => intro _; rfl
  | succ d ih =>
    intro hd
    have hz : tb_b S (c + d) = 0 := tb_f (by omega) (h (c + d) (by omega) (by omega))
    show tf_in E S r (c + d + 1) = _
    rw [tf_in, if_pos hz, ih (by omega)]
theorem tf_out_c {E : Nat → Int32} {S : Int32} {c : Nat} (hc : c ≤ 12) (h : tb_lo S c) : ∀ k, tf_out E S 12 k = tf_out E S c k := by
  intro k
  induction k with
  | zero => rfl
  | succ k ih =>
    have t := tf_in_c (E := E) (r := tf_out E S c k) h (12 - c) (by omega)
    rw [show c + (12 - c) = 12 by omega] at t
    rw [tf_out, tf_out, ih, t]
theorem tf_li_c {O : Int32} {A : Nat → Int32} {l : Int32} {c : Nat} (h : tb_lo O c) : ∀ d, c + d ≤ 12 → tf_li O A l (c + d) = tf_li O A l c := by
  intro d
  induction d with
  | zero => intro _; rfl
  | succ d ih =>
    intro hd
    have hz : tb_b O (c + d) = 0 := tb_f (by omega) (h (c + d) (by omega) (by omega))
    show tf_li O A l (c + d + 1) = _
    rw [tf_li, if_pos hz, ih (by omega)]
theorem tf_li_12 {O : Int32} {A : Nat → Int32} {l : Int32} {c : Nat} (hc : c ≤ 12) (h : tb_lo O c) : tf_li O A l 12 = tf_li O A l c := by
  have t := tf_li_c (A := A) (l := l) h (12 - c) (by omega)
  rw [show c + (12 - c) = 12 by omega] at t
  exact t
theorem tf_li_hi {O : Int32} {A : Nat → Int32} {l : Int32} : ∀ m, m ≤ 12 → ∀ j, m ≤ j → j < 12 → bt (tf_li O A l m) j = false := by
  intro m
  induction m with
  | zero => intro _ j _ _; exact b_0 j
  | succ m ih =>
    intro hm j h1 h2
    have t := ih (by omega) j (by omega) h2
    rw [tf_li]
    split
    · exact t
    · split
      · exact t
      · rw [b_or, t, tb_sl (by omega) (by omega), decide_eq_false (by omega)]; rfl
/-! the weight of a set -/
def tf_wt (A : Nat → Int32) (c : Nat) : Prop := ∀ j, j < c → ∃ n, n ≤ 20 ∧ A j = nI n
theorem tf_w_le {A : Nat → Int32} {S : Int32} {c : Nat} (ha : tf_wt A c) (hs : tb_lo S c) : ∀ m, m ≤ 12 → tf_w A S m ≤ 20 * m := by
  intro m
  induction m with
  | zero => intro _; exact Nat.le_refl _
  | succ m ih =>
    intro hm
    have t := ih (by omega)
    rw [tf_w]
    split
    · omega
    · rename_i z
      rcases Nat.lt_or_ge m c with h | h
      · obtain ⟨n, hn, en⟩ := ha m h
        rw [en, nI_clamp (by omega)]
        omega
      · exact absurd (tb_f (by omega) (hs m h (by omega))) z
theorem tf_w_240 {A : Nat → Int32} {S : Int32} {c : Nat} (ha : tf_wt A c) (hs : tb_lo S c) : tf_w A S 12 ≤ 240 := tf_w_le ha hs 12 (by omega)
theorem tf_w_c {A : Nat → Int32} {S : Int32} {c : Nat} (hs : tb_lo S c) : ∀ d, c + d ≤ 12 → tf_w A S (c + d) = tf_w A S c := by
  intro d
  induction d with
  | zero => intro _; rfl
  | succ d ih =>
    intro hd
    have hz : tb_b S (c + d) = 0 := tb_f (by omega) (hs (c + d) (by omega) (by omega))
    show tf_w A S (c + d + 1) = _
    rw [tf_w, if_pos hz, ih (by omega)]
theorem tf_w_12 {A : Nat → Int32} {S : Int32} {c : Nat} (hc : c ≤ 12) (hs : tb_lo S c) : tf_w A S 12 = tf_w A S c := by
  have t := tf_w_c (A := A) hs (12 - c) (by omega)
  rw [show c + (12 - c) = 12 by omega] at t
  exact t
/-- a step of the sum, at an edge of the set -/
theorem tf_w_st {A : Nat → Int32} {S : Int32} {c e : Nat} (ha : tf_wt A c) (hs : tb_lo S c) (he : e < 12) (hb : ¬ tb_b S e = 0) : nI (tf_w A S e) + A e = nI (tf_w A S (e + 1)) := by
  rw [tf_w, if_neg hb]
  rcases Nat.lt_or_ge e c with h | h
  · obtain ⟨n, hn, en⟩ := ha e h
    rw [en, nI_clamp (by omega), nI_add]
  · exact absurd (tb_f (by omega) (hs e h he)) hb
/-! least -/
theorem tf_m_t {g : Nat → Bool} {f : Nat → Nat} {s : Nat} (h : g s = true) : tf_m g f (s + 1) = match tf_m g f s with | none => some (f s) | some b => if f s < b then some (f s) else some b := by
  rw [tf_m, if_pos h]
theorem tf_m_f {g : Nat → Bool} {f : Nat → Nat} {s : Nat} (h : ¬ g s = true) : tf_m g f (s + 1) = tf_m g f s := by
  rw [tf_m, if_neg h]
theorem tf_m_le {g : Nat → Bool} {f : Nat → Nat} {B : Nat} (h : ∀ s, g s = true → f s ≤ B) : ∀ m b, tf_m g f m = some b → b ≤ B := by
  intro m
  induction m with
  | zero => intro b hb; rw [tf_m] at hb; cases hb
  | succ m ih =>
    intro b hb
    by_cases hg : g m = true
    · rw [tf_m_t hg] at hb
      cases hm : tf_m g f m with
      | none =>
        rw [hm] at hb
        cases hb
        exact h m hg
      | some b0 =>
        rw [hm] at hb
        dsimp only at hb
        split at hb
        · cases hb; exact h m hg
        · cases hb; exact ih _ hm
    · rw [tf_m_f hg] at hb
      exact ih b hb
theorem tf_m_none {g : Nat → Bool} {f : Nat → Nat} (h : ∀ s, ¬ g s = true) : ∀ m, tf_m g f m = none := by
  intro m
  induction m with
  | zero => rfl
  | succ m ih => rw [tf_m_f (h m), ih]
theorem tf_m_ext {g g' : Nat → Bool} {f : Nat → Nat} (h : ∀ s, g s = g' s) (m : Nat) : tf_m g f m = tf_m g' f m := by
  rw [funext h]
/-- over more sets the least is no greater -/
theorem tf_m_mono {g g' : Nat → Bool} {f : Nat → Nat} (h : ∀ s, g s = true → g' s = true) : ∀ m b, tf_m g f m = some b → ∃ b', tf_m g' f m = some b' ∧ b' ≤ b := by
  intro m
  induction m with
  | zero => intro b hb; rw [tf_m] at hb; cases hb
  | succ m ih =>
    intro b hb
    by_cases hg : g m = true
    · rw [tf_m_t hg] at hb
      rw [tf_m_t (h m hg)]
      cases hm : tf_m g f m with
      | none =>
        rw [hm] at hb
        cases hb
        cases hm' : tf_m g' f m with
        | none => exact ⟨_, rfl, Nat.le_refl _⟩
        | some b1 =>
          dsimp only
          by_cases z : f m < b1
          · rw [if_pos z]; exact ⟨_, rfl, Nat.le_refl _⟩
          · rw [if_neg z]; exact ⟨_, rfl, by omega⟩
      | some b0 =>
        obtain ⟨b1, e1, l1⟩ := ih b0 hm
        rw [hm] at hb
        rw [e1]
        dsimp only at hb ⊢
        by_cases z0 : f m < b0
        · rw [if_pos z0] at hb
          cases hb
          by_cases z : f m < b1
          · rw [if_pos z]; exact ⟨_, rfl, Nat.le_refl _⟩
          · rw [if_neg z]; exact ⟨_, rfl, by omega⟩
        · rw [if_neg z0] at hb
          cases hb
          by_cases z : f m < b1
          · rw [if_pos z]; exact ⟨_, rfl, by omega⟩
          · rw [if_neg z]; exact ⟨_, rfl, l1⟩
    · rw [tf_m_f hg] at hb
      obtain ⟨b1, e1, l1⟩ := ih b hb
      by_cases hg' : g' m = true
      · rw [tf_m_t hg', e1]
        dsimp only
        by_cases z : f m < b1
        · rw [if_pos z]; exact ⟨_, rfl, by omega⟩
        · rw [if_neg z]; exact ⟨_, rfl, l1⟩
      · rw [tf_m_f hg']
        exact ⟨b1, e1, l1⟩
theorem tf_k_le (g : Nat → Bool) : ∀ m, tf_k g m ≤ m := by
  intro m
  induction m with
  | zero => exact Nat.le_refl _
  | succ m ih => rw [tf_k]; split <;> omega
/-! the two readings of none -/
theorem tf_x_ne {n : Nat} (h : n ≤ 240) : ¬ nI n = (-5 : Int32) := by
  intro z
  have t := congrArg Int32.toInt z
  rw [nI_toInt (by omega)] at t
  have e : (-5 : Int32).toInt = -5 := by decide
  omega
theorem tf_y_ne {n : Nat} (h : n ≤ 240) : ¬ nI n = (100000 : Int32) := by
  intro z
  have t : nI n = nI 100000 := z
  rw [nI_eq (by omega) (by omega)] at t
  omega
theorem tf_y_lt {n : Nat} (h : n ≤ 240) : nI n < (100000 : Int32) := nI_lt (b := 100000) (by omega) (by omega)
theorem tf_m1_lt {n : Nat} (h : n ≤ 240) : (-1 : Int32) < nI n := by
  rw [Int32.lt_iff_toInt_lt, nI_toInt (by omega)]
  have e : (-1 : Int32).toInt = -1 := by decide
  omega
/-! the sets that a question looks at -/
def tf_f (A : Nat → Int32) (s : Nat) : Nat := tf_w A (nI s) 12
def tf_g (O : Int32) (E : Nat → Int32) (w o : Int32) (s : Nat) : Bool := tf_tree O E (nI s) && (decide ((nI s &&& w) = w) && decide ((nI s &&& o) = 0))
def tf_h (O : Int32) (E A : Nat → Int32) (fl w o : Int32) (s : Nat) : Bool := tf_g O E w o s && decide (fl < nI (tf_f A s))
def tf_L (O : Int32) (E A : Nat → Int32) (w o : Int32) : Option Nat := tf_m (tf_g O E w o) (tf_f A) 4096
def tf_c (O : Int32) (E A : Nat → Int32) (x : Int32) (s : Nat) : Bool := tf_tree O E (nI s) && decide (nI (tf_f A s) = x)
def tf_t (O : Int32) (E : Nat → Int32) (s : Nat) : Bool := tf_tree O E (nI s)
def tf_ok (c : Nat) (O : Int32) (A : Nat → Int32) : Prop := c ≤ 12 ∧ tb_lo O c ∧ tf_wt A c
theorem tf_tree_t {O S : Int32} {E : Nat → Int32} (h1 : (S &&& (O ^^^ (-1))) = 0) (h2 : tf_sz S 12 = 6) (h3 : tf_out E S 12 6 = 127) : tf_tree O E S = true := by
  unfold tf_tree
  rw [decide_eq_true h1, decide_eq_true h2, decide_eq_true h3]
  rfl
theorem tf_tree_1 {O S : Int32} {E : Nat → Int32} (h1 : ¬ (S &&& (O ^^^ (-1))) = 0) : ¬ tf_tree O E S = true := by
  unfold tf_tree
  rw [decide_eq_false h1, Bool.false_and]
  decide
theorem tf_tree_2 {O S : Int32} {E : Nat → Int32} (h2 : ¬ tf_sz S 12 = 6) : ¬ tf_tree O E S = true := by
  unfold tf_tree
  rw [decide_eq_false h2, Bool.false_and, Bool.and_false]
  decide
theorem tf_tree_3 {O S : Int32} {E : Nat → Int32} (h3 : ¬ tf_out E S 12 6 = 127) : ¬ tf_tree O E S = true := by
  unfold tf_tree
  rw [decide_eq_false h3, Bool.and_false, Bool.and_false]
  decide
theorem tf_tree_in {O S : Int32} {E : Nat → Int32} (h : tf_tree O E S = true) : (S &&& (O ^^^ (-1))) = 0 := by
  by_cases z : (S &&& (O ^^^ (-1))) = 0
  · exact z
  · exact absurd h (tf_tree_1 z)
theorem tf_tree_lo {c : Nat} {O S : Int32} {E A : Nat → Int32} (k : tf_ok c O A) (h : tf_tree O E S = true) : tb_lo S c := tb_lo_in k.2.1 (tf_tree_in h)
theorem tf_tree_le {c s : Nat} {O : Int32} {E A : Nat → Int32} (k : tf_ok c O A) (h : tf_tree O E (nI s) = true) : tf_f A s ≤ 240 := tf_w_240 k.2.2 (tf_tree_lo k h)
theorem tf_and {a b : Bool} (h : (a && b) = true) : a = true ∧ b = true := by
  cases a <;> cases b <;> first | exact ⟨rfl, rfl⟩ | exact absurd h (by decide)
theorem tf_g_t {O w o : Int32} {E : Nat → Int32} {s : Nat} (h : tf_g O E w o s = true) : tf_tree O E (nI s) = true := (tf_and h).1
theorem tf_h_t {O fl w o : Int32} {E A : Nat → Int32} {s : Nat} (h : tf_h O E A fl w o s = true) : tf_tree O E (nI s) = true := tf_g_t (tf_and h).1
theorem tf_g_y {O w o : Int32} {E : Nat → Int32} {s : Nat} (h : tf_tree O E (nI s) = true) (h1 : (nI s &&& w) = w) (h2 : (nI s &&& o) = 0) : tf_g O E w o s = true := by
  unfold tf_g
  rw [h, decide_eq_true h1, decide_eq_true h2]
  rfl
theorem tf_g_1 {O w o : Int32} {E : Nat → Int32} {s : Nat} (h1 : ¬ (nI s &&& w) = w) : ¬ tf_g O E w o s = true :=
  fun z => h1 (of_decide_eq_true (tf_and (tf_and z).2).1)
theorem tf_g_2 {O w o : Int32} {E : Nat → Int32} {s : Nat} (h2 : ¬ (nI s &&& o) = 0) : ¬ tf_g O E w o s = true :=
  fun z => h2 (of_decide_eq_true (tf_and (tf_and z).2).2)
theorem tf_g_0 {O w o : Int32} {E : Nat → Int32} {s : Nat} (h : ¬ tf_tree O E (nI s) = true) : ¬ tf_g O E w o s = true := fun z => h (tf_g_t z)
theorem tf_h_g {O fl w o : Int32} {E A : Nat → Int32} {s : Nat} (h : ¬ tf_g O E w o s = true) : ¬ tf_h O E A fl w o s = true := fun z => h (tf_and z).1
theorem tf_h_y {O fl w o : Int32} {E A : Nat → Int32} {s : Nat} (h : tf_g O E w o s = true) (hf : ¬ nI (tf_f A s) ≤ fl) : tf_h O E A fl w o s = true := by
  unfold tf_h
  rw [h, decide_eq_true (Int32.not_le.mp hf)]
  rfl
theorem tf_h_n {O fl w o : Int32} {E A : Nat → Int32} {s : Nat} (hf : nI (tf_f A s) ≤ fl) : ¬ tf_h O E A fl w o s = true :=
  fun z => Int32.not_lt.mpr hf (of_decide_eq_true (tf_and z).2)
theorem tf_L_le {c b : Nat} {O w o : Int32} {E A : Nat → Int32} (k : tf_ok c O A) (h : tf_L O E A w o = some b) : b ≤ 240 := by
  unfold tf_L at h
  exact tf_m_le (g := tf_g O E w o) (f := tf_f A) (fun _ z => tf_tree_le k (tf_g_t z)) 4096 b h
/-- below any cost: the floor -1 holds nothing back -/
theorem tf_h_m1 {c : Nat} {O w o : Int32} {E A : Nat → Int32} (k : tf_ok c O A) : tf_m (tf_h O E A (-1) w o) (tf_f A) 4096 = tf_L O E A w o := by
  unfold tf_L
  refine tf_m_ext (fun s => ?_) 4096
  by_cases z : tf_g O E w o s = true
  · rw [z]
    unfold tf_h
    rw [z, decide_eq_true (tf_m1_lt (tf_tree_le k (tf_g_t z)))]
    rfl
  · have z' : ¬ tf_h O E A (-1) w o s = true := tf_h_g z
    rw [Bool.not_eq_true] at z z'
    rw [z, z']
theorem tf_and0 (x : Int32) : (x &&& 0) = 0 := by
  apply b_ext
  intro i _
  rw [b_and, b_0, Bool.and_false]
/-- without an edge there is no less -/
theorem tf_L_o {O o : Int32} {E A : Nat → Int32} {d : Nat} (h : tf_L O E A 0 o = some d) : ∃ b, tf_L O E A 0 0 = some b ∧ b ≤ d := by
  unfold tf_L at h ⊢
  exact tf_m_mono (g := tf_g O E 0 o) (g' := tf_g O E 0 0) (fun _ z => tf_g_y (tf_g_t z) (tf_and0 _) (tf_and0 _)) 4096 d h
/-- no cost is above 100000 -/
theorem tf_h_no {c : Nat} {O : Int32} {E A : Nat → Int32} (k : tf_ok c O A) : tf_m (tf_h O E A 100000 0 0) (tf_f A) 4096 = none := by
  refine tf_m_none (fun s z => ?_) 4096
  have t := tf_tree_le k (tf_h_t z)
  exact tf_h_n (Int32.le_of_lt (tf_y_lt t)) z
theorem tf_c_xy {c : Nat} {O : Int32} {E A : Nat → Int32} (k : tf_ok c O A) (L : Option Nat) : tf_c O E A (tf_x L) = tf_c O E A (tf_y L) := by
  funext s
  unfold tf_c
  by_cases z : tf_tree O E (nI s) = true
  · have t := tf_tree_le k z
    cases L with
    | none => rw [decide_eq_false (show ¬ nI (tf_f A s) = tf_x none from tf_x_ne t), decide_eq_false (show ¬ nI (tf_f A s) = tf_y none from tf_y_ne t)]
    | some b => rfl
  · rw [Bool.not_eq_true] at z
    rw [z, Bool.false_and, Bool.false_and]
def tf_some : Option Nat → Option Nat → Bool
  | some a, some b => decide (a = b)
  | none, _ => false
  | some _, none => false
end
section
/-! the class's walks against the pure pictures: each with a general post -/
section
variable {post : Int32 → Prop} {c : Nat} {C O S : Int32} {E A : Nat → Int32}
theorem sx_sz_l (h : post (tf_sz S 12)) : ∀ d e, e + d = 12 → wX_sizeOf_4 post S C O E A (d + 1) (tf_sz S e) (nI e) := by
  intro d
  induction d with
  | zero =>
    intro e he
    have e12 : e = 12 := by omega
    subst e12
    exact br_t (nI_le (a := 12) (b := 12) (by omega) (by omega)) h
  | succ d ih =>
    intro e he
    have q := ih (e + 1) (by omega)
    exact br_f (nI_ge (b := 12) (by omega) (by omega)) (nm_e (nm_r (nI_1 e) q))
theorem sx_sz (h : post (tf_sz S 12)) : wpX_sizeOf post (C, O, E, A) S := ⟨_, sx_sz_l h 12 0 rfl⟩
theorem sx_in_l {J : Int32 → Int32 → Prop} {k r : Int32} (h : J (tf_in E S r 12) (k + 1)) : ∀ d e, e + d = 12 → wX_connectsAll_13 post J S k C O E A (d + 1) (tf_in E S r e) (nI e) := by
  intro d
  induction d with
  | zero =>
    intro e he
    have e12 : e = 12 := by omega
    subst e12
    exact br_t (nI_le (a := 12) (b := 12) (by omega) (by omega)) (nm_e h)
  | succ d ih =>
    intro e he
    have q := ih (e + 1) (by omega)
    have hcl : (nI e).toNatClampNeg = e := nI_clamp (by omega)
    have hin : vp_in (nI e) 12 := vp_in_nI (by omega) (by omega)
    refine br_f (nI_ge (b := 12) (by omega) (by omega)) ?_
    by_cases hb : tb_b S e = 0
    · rw [tf_in, if_pos hb] at q
      exact br_t hb (nm_r (nI_1 e) q)
    · by_cases hr : (tf_in E S r e &&& E e) = 0
      · rw [tf_in, if_neg hb, if_pos hr] at q
        have hr' : (tf_in E S r e &&& E (nI e).toNatClampNeg) = 0 := by rw [hcl]; exact hr
        exact br_f hb ⟨hin, br_t hr' (nm_r (nI_1 e) q)⟩
      · rw [tf_in, if_neg hb, if_neg hr] at q
        have hr' : ¬ (tf_in E S r e &&& E (nI e).toNatClampNeg) = 0 := by rw [hcl]; exact hr
        have hu : (tf_in E S r e ||| E (nI e).toNatClampNeg) = tf_in E S r e ||| E e := by rw [hcl]
        exact br_f hb ⟨hin, br_f hr' ⟨hin, nm_r hu (nm_r (nI_1 e) q)⟩⟩
theorem sx_out_l (h : post (if tf_out E S 12 6 = 127 then 1 else 0)) : ∀ d j, j + d = 6 → wX_connectsAll_4 post S C O E A (d + 1) (tf_out E S 12 j) (nI j) := by
  intro d
  induction d with
  | zero =>
    intro j hj
    have j6 : j = 6 := by omega
    subst j6
    refine br_t (nI_le (a := 6) (b := 6) (by omega) (by omega)) ?_
    by_cases z : tf_out E S 12 6 = 127
    · rw [if_pos z] at h
      exact br_t z h
    · rw [if_neg z] at h
      exact br_f z h
  | succ d ih =>
    intro j hj
    have q : wX_connectsAll_4 post S C O E A (d + 1) (tf_in E S (tf_out E S 12 j) 12) (nI j + 1) := by
      rw [nI_1]
      exact ih (j + 1) (by omega)
    exact br_f (nI_ge (b := 6) (by omega) (by omega)) ⟨_, sx_in_l (post := post) (J := wX_connectsAll_4 post S C O E A (d + 1)) (r := tf_out E S 12 j) q 12 0 rfl⟩
theorem sx_con (h : post (if tf_out E S 12 6 = 127 then 1 else 0)) : wpX_connectsAll post (C, O, E, A) S := ⟨_, sx_out_l h 6 0 rfl⟩
theorem sx_tree (h : post (if tf_tree O E S = true then 1 else 0)) : wpX_isTree post (C, O, E, A) S := by
  by_cases z1 : (S &&& (O ^^^ (-1))) = 0
  · refine br_t z1 (sx_sz ?_)
    by_cases z2 : tf_sz S 12 = 6
    · refine br_t z2 (sx_con ?_)
      by_cases z3 : tf_out E S 12 6 = 127
      · rw [if_pos (tf_tree_t z1 z2 z3)] at h
        rw [if_pos z3]
        exact br_f (by decide) h
      · rw [if_neg (tf_tree_3 z3)] at h
        rw [if_neg z3]
        exact br_t rfl h
    · rw [if_neg (tf_tree_2 z2)] at h
      exact br_f z2 h
  · rw [if_neg (tf_tree_1 z1)] at h
    exact br_f z1 h
theorem sx_w_l (ha : tf_wt A c) (hs : tb_lo S c) (h : post (nI (tf_w A S 12))) : ∀ d e, e + d = 12 → wX_weightOf_4 post S C O E A (d + 1) (nI (tf_w A S e)) (nI e) := by
  intro d
  induction d with
  | zero =>
    intro e he
    have e12 : e = 12 := by omega
    subst e12
    exact br_t (nI_le (a := 12) (b := 12) (by omega) (by omega)) h
  | succ d ih =>
    intro e he
    have q := ih (e + 1) (by omega)
    have hcl : (nI e).toNatClampNeg = e := nI_clamp (by omega)
    refine br_f (nI_ge (b := 12) (by omega) (by omega)) ?_
    by_cases hb : tb_b S e = 0
    · rw [tf_w, if_pos hb] at q
      exact br_t hb (nm_r (nI_1 e) q)
    · have hu : nI (tf_w A S e) + A (nI e).toNatClampNeg = nI (tf_w A S (e + 1)) := by
        rw [hcl]
        exact tf_w_st ha hs (by omega) hb
      exact br_f hb ⟨vp_in_nI (by omega) (by omega), nm_r hu (nm_r (nI_1 e) q)⟩
theorem sx_w (ha : tf_wt A c) (hs : tb_lo S c) (h : post (nI (tf_w A S 12))) : wpX_weightOf post (C, O, E, A) S := ⟨_, sx_w_l ha hs h 12 0 rfl⟩
theorem sx_le_l {fl w o : Int32} (k : tf_ok c O A) (h : post (tf_x (tf_m (tf_h O E A fl w o) (tf_f A) 4096))) : ∀ d s, s + d = 4096 → wX_leastCostAbove_7 post fl w o C O E A (d + 1) (tf_x (tf_m (tf_h O E A fl w o) (tf_f A) s)) (nI s) := by
  intro d
  induction d with
  | zero =>
    intro s he
    have e12 : s = 4096 := by omega
    subst e12
    exact br_t (nI_le (a := 4096) (b := 4096) (by omega) (by omega)) h
  | succ d ih =>
    intro s he
    have q := ih (s + 1) (by omega)
    refine br_f (nI_ge (b := 4096) (by omega) (by omega)) ?_
    by_cases z1 : (nI s &&& w) = w
    · refine br_t z1 ?_
      by_cases z2 : (nI s &&& o) = 0
      · refine br_t z2 (br_f (by decide) (sx_tree ?_))
        by_cases zt : tf_tree O E (nI s) = true
        · rw [if_pos zt]
          have hle : tf_f A s ≤ 240 := tf_tree_le k zt
          refine br_f (by decide) (sx_w k.2.2 (tf_tree_lo k zt) ?_)
          show (nI (tf_f A s) ≤ fl → _) ∧ (¬ nI (tf_f A s) ≤ fl → _)
          by_cases zf : nI (tf_f A s) ≤ fl
          · rw [tf_m_f (tf_h_n zf)] at q
            exact br_t zf (nm_r (nI_1 s) q)
          · rw [tf_m_t (tf_h_y (tf_g_y zt z1 z2) zf)] at q
            refine br_f zf ?_
            cases hm : tf_m (tf_h O E A fl w o) (tf_f A) s with
            | none =>
              rw [hm] at q
              exact br_t rfl (nm_r (nI_1 s) q)
            | some b =>
              have hb : b ≤ 240 := tf_m_le (fun _ z => tf_tree_le k (tf_h_t z)) s b hm
              rw [hm] at q
              dsimp only at q
              refine br_f (tf_x_ne hb) ?_
              by_cases zb : tf_f A s < b
              · rw [if_pos zb] at q
                exact br_f (nI_ge zb (by omega)) (nm_r (nI_1 s) q)
              · rw [if_neg zb] at q
                exact br_t (nI_le (a := b) (b := tf_f A s) (by omega) (by omega)) (nm_r (nI_1 s) q)
        · rw [if_neg zt]
          rw [tf_m_f (tf_h_g (tf_g_0 zt))] at q
          exact br_t rfl (nm_r (nI_1 s) q)
      · rw [tf_m_f (tf_h_g (tf_g_2 z2))] at q
        exact br_f z2 (br_t rfl (nm_r (nI_1 s) q))
    · rw [tf_m_f (tf_h_g (tf_g_1 z1))] at q
      exact br_f z1 (br_t rfl (nm_r (nI_1 s) q))
theorem sx_le {fl w o : Int32} (k : tf_ok c O A) (h : post (tf_x (tf_m (tf_h O E A fl w o) (tf_f A) 4096))) : wpX_leastCostAbove post (C, O, E, A) fl w o := ⟨_, sx_le_l k h 4096 0 rfl⟩
theorem sx_le1 {w o : Int32} (k : tf_ok c O A) (h : post (tf_x (tf_L O E A w o))) : wpX_leastCostAbove post (C, O, E, A) (-1) w o := by
  refine sx_le k ?_
  rw [tf_h_m1 k]
  exact h
theorem sx_ch_l {x : Int32} (k : tf_ok c O A) (h : post (nI (tf_k (tf_c O E A x) 4096))) : ∀ d s, s + d = 4096 → wX_cheapest_12 post x C O E A (d + 1) (nI (tf_k (tf_c O E A x) s)) (nI s) := by
  intro d
  induction d with
  | zero =>
    intro s he
    have e12 : s = 4096 := by omega
    subst e12
    exact br_t (nI_le (a := 4096) (b := 4096) (by omega) (by omega)) h
  | succ d ih =>
    intro s he
    have q := ih (s + 1) (by omega)
    refine br_f (nI_ge (b := 4096) (by omega) (by omega)) (sx_tree ?_)
    by_cases zt : tf_tree O E (nI s) = true
    · rw [if_pos zt]
      refine br_f (by decide) (sx_w k.2.2 (tf_tree_lo k zt) ?_)
      show (nI (tf_f A s) = x → _) ∧ (¬ nI (tf_f A s) = x → _)
      by_cases zx : nI (tf_f A s) = x
      · have hg : tf_c O E A x s = true := by unfold tf_c; rw [zt, decide_eq_true zx]; rfl
        rw [tf_k, if_pos hg] at q
        exact br_t zx (nm_r (nI_1 _) (nm_r (nI_1 s) q))
      · have hg : ¬ tf_c O E A x s = true := fun z => zx (of_decide_eq_true (tf_and z).2)
        rw [tf_k, if_neg hg] at q
        exact br_f zx (nm_r (nI_1 s) q)
    · rw [if_neg zt]
      have hg : ¬ tf_c O E A x s = true := fun z => zt (tf_and z).1
      rw [tf_k, if_neg hg] at q
      exact br_t rfl (nm_r (nI_1 s) q)
theorem sx_tr_l (h : post (nI (tf_k (tf_t O E) 4096))) : ∀ d s, s + d = 4096 → wX_trees_4 post C O E A (d + 1) (nI (tf_k (tf_t O E) s)) (nI s) := by
  intro d
  induction d with
  | zero =>
    intro s he
    have e12 : s = 4096 := by omega
    subst e12
    exact br_t (nI_le (a := 4096) (b := 4096) (by omega) (by omega)) h
  | succ d ih =>
    intro s he
    have q := ih (s + 1) (by omega)
    refine br_f (nI_ge (b := 4096) (by omega) (by omega)) (sx_tree ?_)
    by_cases zt : tf_tree O E (nI s) = true
    · rw [if_pos zt]
      have hg : tf_t O E s = true := zt
      rw [tf_k, if_pos hg] at q
      exact br_f (by decide) (nm_r (nI_1 _) (nm_r (nI_1 s) q))
    · rw [if_neg zt]
      have hg : ¬ tf_t O E s = true := zt
      rw [tf_k, if_neg hg] at q
      exact br_t rfl (nm_r (nI_1 s) q)
theorem sx_li_l {l : Int32} (h : post (tf_li O A l 12)) : ∀ d e, e + d = 12 → wX_onEdgesUpTo_4 post l C O E A (d + 1) (tf_li O A l e) (nI e) := by
  intro d
  induction d with
  | zero =>
    intro e he
    have e12 : e = 12 := by omega
    subst e12
    exact br_t (nI_le (a := 12) (b := 12) (by omega) (by omega)) h
  | succ d ih =>
    intro e he
    have q := ih (e + 1) (by omega)
    have hcl : (nI e).toNatClampNeg = e := nI_clamp (by omega)
    refine br_f (nI_ge (b := 12) (by omega) (by omega)) ?_
    by_cases hb : tb_b O e = 0
    · rw [tf_li, if_pos hb] at q
      exact br_t hb (nm_r (nI_1 e) q)
    · refine br_f hb ⟨vp_in_nI (by omega) (by omega), ?_⟩
      by_cases hr : l < A e
      · rw [tf_li, if_neg hb, if_pos hr] at q
        have hr' : l < A (nI e).toNatClampNeg := by rw [hcl]; exact hr
        exact br_t hr' (nm_r (nI_1 e) q)
      · rw [tf_li, if_neg hb, if_neg hr] at q
        have hr' : ¬ l < A (nI e).toNatClampNeg := by rw [hcl]; exact hr
        exact br_f hr' (nm_e (nm_r (nI_1 e) q))
theorem sx_li {l : Int32} (h : post (tf_li O A l 12)) : wpX_onEdgesUpTo post (C, O, E, A) l := ⟨_, sx_li_l h 12 0 rfl⟩
end
/-- the least limit from l on, d of them -/
def tf_bo (O : Int32) (E A : Nat → Int32) : Nat → Nat → Int32
  | 0, _ => -5
  | d + 1, l => if tf_out E (tf_li O A (nI l) 12) 12 6 = 127 then nI l else tf_bo O E A d (l + 1)
section
variable {post : Int32 → Prop} {c : Nat} {C O : Int32} {E A : Nat → Int32}
theorem sx_bo_l : ∀ d l, l + d = 21 → post (tf_bo O E A d l) → wX_bottleneck_2 post C O E A (d + 1) (nI l) := by
  intro d
  induction d with
  | zero =>
    intro l hl h
    exact br_t (nI_lt (a := 20) (by omega) (by omega)) h
  | succ d ih =>
    intro l hl h
    refine br_f (nI_nlt (b := l) (a := 20) (by omega) (by omega)) (sx_li (sx_con ?_))
    rw [tf_bo] at h
    by_cases z : tf_out E (tf_li O A (nI l) 12) 12 6 = 127
    · rw [if_pos z] at h
      rw [if_pos z]
      exact br_f (by decide) h
    · rw [if_neg z] at h
      rw [if_neg z]
      exact br_t rfl (nm_r (nI_1 l) (ih (l + 1) (by omega) h))
end
end
section
/-! the reference's walks against the same pictures -/
/-- the two ends of each edge, as the reference keeps them -/
def tf_E (c : Nat) (E U V : Nat → Int32) : Prop := ∀ j, j < c → E j = ((1 : Int32) <<< (U j &&& 31)) ||| ((1 : Int32) <<< (V j &&& 31))
/-- the table of the trees -/
def tf_T (O : Int32) (E T : Nat → Int32) : Prop := ∀ s, s < 4096 → T s = if tf_tree O E (nI s) = true then 1 else 0
section
variable {post : Int32 → Prop} {c : Nat} {C O K S : Int32} {E U V A T : Nat → Int32}
theorem sy_sz_l (h : post (tf_sz S 12)) : ∀ d e, e + d = 12 → wY_size_4 post S C O K U V A T (d + 1) (tf_sz S e) (nI e) := by
  intro d
  induction d with
  | zero =>
    intro e he
    have e12 : e = 12 := by omega
    subst e12
    exact br_t (nI_le (a := 12) (b := 12) (by omega) (by omega)) h
  | succ d ih =>
    intro e he
    have q := ih (e + 1) (by omega)
    exact br_f (nI_ge (b := 12) (by omega) (by omega)) (nm_e (nm_r (nI_1 e) q))
theorem sy_sz (h : post (tf_sz S 12)) : wpY_size post (C, O, K, U, V, A, T) S := ⟨_, sy_sz_l h 12 0 rfl⟩
theorem sy_in_l {J : Int32 → Int32 → Prop} {k r : Int32} (hc : c ≤ 12) (hE : tf_E c E U V) (h : J (tf_in E S r c) (k + 1)) : ∀ d e, e + d = c → wY_connects_13 post J S k (nI c) O K U V A T (d + 1) (tf_in E S r e) (nI e) := by
  intro d
  induction d with
  | zero =>
    intro e he
    have ec : e = c := by omega
    subst ec
    exact br_t (nI_le (Nat.le_refl _) (by omega)) (nm_e h)
  | succ d ih =>
    intro e he
    have q := ih (e + 1) (by omega)
    have hcl : (nI e).toNatClampNeg = e := nI_clamp (by omega)
    have hin : vp_in (nI e) 12 := vp_in_nI (by omega) (by omega)
    have hu : (((1 : Int32) <<< (U (nI e).toNatClampNeg &&& 31)) ||| ((1 : Int32) <<< (V (nI e).toNatClampNeg &&& 31))) = E e := by
      rw [hcl]
      exact (hE e (by omega)).symm
    refine br_f (nI_ge (by omega) (by omega)) ⟨hin, hin, nm_r hu ?_⟩
    by_cases hb : tb_b S e = 0
    · have h1 : ¬ tb_b S e = 1 := fun z => (tb_01 (by omega) S).mp z hb
      rw [tf_in, if_pos hb] at q
      exact br_f h1 (nm_r (nI_1 e) q)
    · have h1 : tb_b S e = 1 := (tb_01 (by omega) S).mpr hb
      refine br_t h1 ?_
      by_cases hr : (tf_in E S r e &&& E e) = 0
      · rw [tf_in, if_neg hb, if_pos hr] at q
        exact br_t hr (nm_r (nI_1 e) q)
      · rw [tf_in, if_neg hb, if_neg hr] at q
        exact br_f hr (nm_e (nm_r (nI_1 e) q))
theorem sy_out_l (hc : c ≤ 12) (hE : tf_E c E U V) (h : post (if tf_out E S c 6 = 127 then 1 else 0)) : ∀ d j, j + d = 6 → wY_connects_4 post S (nI c) O K U V A T (d + 1) (tf_out E S c j) (nI j) := by
  intro d
  induction d with
  | zero =>
    intro j hj
    have j6 : j = 6 := by omega
    subst j6
    refine br_t (nI_le (a := 6) (b := 6) (by omega) (by omega)) ?_
    by_cases z : tf_out E S c 6 = 127
    · rw [if_pos z] at h
      exact br_t z h
    · rw [if_neg z] at h
      exact br_f z h
  | succ d ih =>
    intro j hj
    have q : wY_connects_4 post S (nI c) O K U V A T (d + 1) (tf_in E S (tf_out E S c j) c) (nI j + 1) := by
      rw [nI_1]
      exact ih (j + 1) (by omega)
    exact br_f (nI_ge (b := 6) (by omega) (by omega)) ⟨_, sy_in_l (post := post) (J := wY_connects_4 post S (nI c) O K U V A T (d + 1)) (r := tf_out E S c j) hc hE q c 0 (Nat.zero_add c)⟩
theorem sy_con (hc : c ≤ 12) (hE : tf_E c E U V) (hs : tb_lo S c) (h : post (if tf_out E S 12 6 = 127 then 1 else 0)) : wpY_connects post (nI c, O, K, U, V, A, T) S := by
  rw [tf_out_c hc hs 6] at h
  exact ⟨_, sy_out_l hc hE h 6 0 rfl⟩
theorem sy_w_l (hc : c ≤ 12) (ha : tf_wt A c) (hs : tb_lo S c) (h : post (nI (tf_w A S c))) : ∀ d e, e + d = c → wY_costOf_4 post S (nI c) O K U V A T (d + 1) (nI (tf_w A S e)) (nI e) := by
  intro d
  induction d with
  | zero =>
    intro e he
    have ec : e = c := by omega
    subst ec
    exact br_t (nI_le (Nat.le_refl _) (by omega)) h
  | succ d ih =>
    intro e he
    have q := ih (e + 1) (by omega)
    have hcl : (nI e).toNatClampNeg = e := nI_clamp (by omega)
    refine br_f (nI_ge (by omega) (by omega)) ?_
    by_cases hb : tb_b S e = 0
    · have h1 : ¬ tb_b S e = 1 := fun z => (tb_01 (by omega) S).mp z hb
      rw [tf_w, if_pos hb] at q
      exact br_f h1 (nm_r (nI_1 e) q)
    · have h1 : tb_b S e = 1 := (tb_01 (by omega) S).mpr hb
      have hu : nI (tf_w A S e) + A (nI e).toNatClampNeg = nI (tf_w A S (e + 1)) := by
        rw [hcl]
        exact tf_w_st ha hs (by omega) hb
      exact br_t h1 ⟨vp_in_nI (by omega) (by omega), nm_r hu (nm_r (nI_1 e) q)⟩
theorem sy_w (k : tf_ok c O A) (hs : tb_lo S c) (h : post (nI (tf_w A S 12))) : wpY_costOf post (nI c, O, K, U, V, A, T) S := by
  rw [tf_w_12 k.1 hs] at h
  exact ⟨_, sy_w_l k.1 k.2.2 hs h c 0 (Nat.zero_add c)⟩
theorem sy_told {L : Option Nat} (h240 : ∀ b, L = some b → b ≤ 240) (h : post (tf_x L)) : wpY_told post (C, O, K, U, V, A, T) (tf_y L) := by
  cases L with
  | none => exact br_t rfl h
  | some b => exact br_f (tf_y_ne (h240 b rfl)) h
end
/-! the table -/
theorem sy_nar0 : vp_nar .boolean 0 = 0 := by rfl
theorem sy_nar1 : vp_nar .boolean 1 = 1 := by rfl
section
variable {post : SY → Prop} {c : Nat} {O K : Int32} {E U V A T : Nat → Int32}
theorem sy_wo_l (k : tf_ok c O A) (hE : tf_E c E U V) (h : ∀ T', tf_T O E T' → post (nI c, O, 1, U, V, A, T')) : ∀ d s T, s + d = 4096 → (∀ j, j < s → T j = if tf_tree O E (nI j) = true then 1 else 0) → wY_workOut_15 post (nI c) O 1 (d + 1) (nI s) U V A T := by
  intro d
  induction d with
  | zero =>
    intro s T he hT
    have e12 : s = 4096 := by omega
    subst e12
    exact br_t (nI_le (a := 4096) (b := 4096) (by omega) (by omega)) (h T hT)
  | succ d ih =>
    intro s T he hT
    have hcl : (nI s).toNatClampNeg = s := nI_clamp (by omega)
    have put : ∀ z : Int32, vp_nar .boolean z = (if tf_tree O E (nI s) = true then 1 else 0) → (vp_in (nI s) 4096 ∧ ∀ a : Nat → Int32, a = upd T (nI s).toNatClampNeg (vp_nar .boolean z) → ∀ x : Int32, x = nI s + 1 → wY_workOut_15 post (nI c) O 1 (d + 1) x U V A a) := by
      intro z hz
      refine ⟨vp_in_nI (by omega) (by omega), nm_e (nm_r (nI_1 s) (ih (s + 1) _ (by omega) ?_))⟩
      intro j hj
      rw [hcl, hz]
      unfold upd
      by_cases e : j = s
      · rw [if_pos e, e]
      · rw [if_neg e]
        exact hT j (by omega)
    refine br_f (nI_ge (b := 4096) (by omega) (by omega)) ?_
    by_cases z1 : (nI s &&& (O ^^^ (-1))) = 0
    · refine br_t z1 (sy_sz ?_)
      by_cases z2 : tf_sz (nI s) 12 = 6
      · refine br_t z2 (sy_con k.1 hE (tb_lo_in k.2.1 z1) ?_)
        by_cases z3 : tf_out E (nI s) 12 6 = 127
        · rw [if_pos z3]
          exact br_f (by decide) (put 1 (by rw [if_pos (tf_tree_t z1 z2 z3)]; exact sy_nar1))
        · rw [if_neg z3]
          exact br_t rfl (put 0 (by rw [if_neg (tf_tree_3 z3)]; exact sy_nar0))
      · exact br_f z2 (put 0 (by rw [if_neg (tf_tree_2 z2)]; exact sy_nar0))
    · exact br_f z1 (put 0 (by rw [if_neg (tf_tree_1 z1)]; exact sy_nar0))
theorem sy_wo (k : tf_ok c O A) (hE : tf_E c E U V) (hT : ¬ K = 0 → tf_T O E T) (h : ∀ K' T', ¬ K' = 0 → tf_T O E T' → post (nI c, O, K', U, V, A, T')) : wpY_workOut post (nI c, O, K, U, V, A, T) := by
  by_cases z : K = 0
  · exact br_t z ⟨_, sy_wo_l k hE (fun T' t => h 1 T' (by decide) t) 4096 0 T rfl (fun j hj => absurd hj (Nat.not_lt_zero j))⟩
  · exact br_f z (h K T z (hT z))
end
section
variable {post : Int32 → SY → Prop} {c : Nat} {O K : Int32} {E U V A T : Nat → Int32}
theorem sy_cell1 {s : Nat} (hT : tf_T O E T) (hs : s < 4096) (z : tf_tree O E (nI s) = true) : ¬ T (nI s).toNatClampNeg = 0 := by
  rw [nI_clamp (by omega), hT s hs, if_pos z]
  decide
theorem sy_cell0 {s : Nat} (hT : tf_T O E T) (hs : s < 4096) (z : ¬ tf_tree O E (nI s) = true) : T (nI s).toNatClampNeg = 0 := by
  rw [nI_clamp (by omega), hT s hs, if_neg z]
theorem sy_le_l {w o : Int32} (k : tf_ok c O A) (hT : tf_T O E T) (h : post (tf_y (tf_m (tf_g O E w o) (tf_f A) 4096)) (nI c, O, K, U, V, A, T)) : ∀ d s, s + d = 4096 → wY_least_10 post w o (nI c) O K U V A T (d + 1) (tf_y (tf_m (tf_g O E w o) (tf_f A) s)) (nI s) := by
  intro d
  induction d with
  | zero =>
    intro s he
    have e12 : s = 4096 := by omega
    subst e12
    exact br_t (nI_le (a := 4096) (b := 4096) (by omega) (by omega)) h
  | succ d ih =>
    intro s he
    have q := ih (s + 1) (by omega)
    refine br_f (nI_ge (b := 4096) (by omega) (by omega)) ⟨vp_in_nI (by omega) (by omega), ?_⟩
    by_cases zt : tf_tree O E (nI s) = true
    · refine br_f (sy_cell1 hT (by omega) zt) ?_
      by_cases z1 : (nI s &&& w) = w
      · refine br_t z1 ?_
        by_cases z2 : (nI s &&& o) = 0
        · have hle : tf_f A s ≤ 240 := tf_tree_le k zt
          refine br_t z2 (sy_w k (tf_tree_lo k zt) ?_)
          show (_ ≤ nI (tf_f A s) → _) ∧ (¬ _ ≤ nI (tf_f A s) → _)
          rw [tf_m_t (tf_g_y zt z1 z2)] at q
          cases hm : tf_m (tf_g O E w o) (tf_f A) s with
          | none =>
            rw [hm] at q
            exact br_f (nI_ge (a := tf_f A s) (b := 100000) (by omega) (by omega)) (nm_r (nI_1 s) q)
          | some b =>
            have hb : b ≤ 240 := tf_m_le (fun _ z => tf_tree_le k (tf_g_t z)) s b hm
            rw [hm] at q
            dsimp only at q
            by_cases zb : tf_f A s < b
            · rw [if_pos zb] at q
              exact br_f (nI_ge zb (by omega)) (nm_r (nI_1 s) q)
            · rw [if_neg zb] at q
              exact br_t (nI_le (a := b) (b := tf_f A s) (by omega) (by omega)) (nm_r (nI_1 s) q)
        · rw [tf_m_f (tf_g_2 z2)] at q
          exact br_f z2 (nm_r (nI_1 s) q)
      · rw [tf_m_f (tf_g_1 z1)] at q
        exact br_f z1 (nm_r (nI_1 s) q)
    · rw [tf_m_f (tf_g_0 zt)] at q
      exact br_t (sy_cell0 hT (by omega) zt) (nm_r (nI_1 s) q)
theorem sy_le {w o : Int32} (k : tf_ok c O A) (hE : tf_E c E U V) (hT : ¬ K = 0 → tf_T O E T) (h : ∀ K' T', ¬ K' = 0 → tf_T O E T' → post (tf_y (tf_L O E A w o)) (nI c, O, K', U, V, A, T')) : wpY_least post (nI c, O, K, U, V, A, T) w o := by
  unfold wpY_least
  exact sy_wo k hE hT (fun K' T' hk ht => ⟨_, sy_le_l k ht (h K' T' hk ht) 4096 0 rfl⟩)
theorem sy_ch_l {x : Int32} (k : tf_ok c O A) (hT : tf_T O E T) (h : post (nI (tf_k (tf_c O E A x) 4096)) (nI c, O, K, U, V, A, T)) : ∀ d s, s + d = 4096 → wY_cheapest_11 post x (nI c) O K U V A T (d + 1) (nI (tf_k (tf_c O E A x) s)) (nI s) := by
  intro d
  induction d with
  | zero =>
    intro s he
    have e12 : s = 4096 := by omega
    subst e12
    exact br_t (nI_le (a := 4096) (b := 4096) (by omega) (by omega)) h
  | succ d ih =>
    intro s he
    have q := ih (s + 1) (by omega)
    refine br_f (nI_ge (b := 4096) (by omega) (by omega)) ⟨vp_in_nI (by omega) (by omega), ?_⟩
    by_cases zt : tf_tree O E (nI s) = true
    · refine br_f (sy_cell1 hT (by omega) zt) (sy_w k (tf_tree_lo k zt) ?_)
      show (nI (tf_f A s) = x → _) ∧ (¬ nI (tf_f A s) = x → _)
      by_cases zx : nI (tf_f A s) = x
      · have hg : tf_c O E A x s = true := by unfold tf_c; rw [zt, decide_eq_true zx]; rfl
        rw [tf_k, if_pos hg] at q
        exact br_t zx (nm_r (nI_1 _) (nm_r (nI_1 s) q))
      · have hg : ¬ tf_c O E A x s = true := fun z => zx (of_decide_eq_true (tf_and z).2)
        rw [tf_k, if_neg hg] at q
        exact br_f zx (nm_r (nI_1 s) q)
    · have hg : ¬ tf_c O E A x s = true := fun z => zt (tf_and z).1
      rw [tf_k, if_neg hg] at q
      exact br_t (sy_cell0 hT (by omega) zt) (nm_r (nI_1 s) q)
theorem sy_tr_l (hT : tf_T O E T) (h : post (nI (tf_k (tf_t O E) 4096)) (nI c, O, K, U, V, A, T)) : ∀ d s, s + d = 4096 → wY_trees_8 post (nI c) O K U V A T (d + 1) (nI (tf_k (tf_t O E) s)) (nI s) := by
  intro d
  induction d with
  | zero =>
    intro s he
    have e12 : s = 4096 := by omega
    subst e12
    exact br_t (nI_le (a := 4096) (b := 4096) (by omega) (by omega)) h
  | succ d ih =>
    intro s he
    have q := ih (s + 1) (by omega)
    refine br_f (nI_ge (b := 4096) (by omega) (by omega)) ⟨vp_in_nI (by omega) (by omega), ?_⟩
    by_cases zt : tf_tree O E (nI s) = true
    · have hg : tf_t O E s = true := zt
      rw [tf_k, if_pos hg] at q
      exact br_f (sy_cell1 hT (by omega) zt) (nm_r (nI_1 _) (nm_r (nI_1 s) q))
    · have hg : ¬ tf_t O E s = true := zt
      rw [tf_k, if_neg hg] at q
      exact br_t (sy_cell0 hT (by omega) zt) (nm_r (nI_1 s) q)
theorem sy_nx_l {x : Int32} (k : tf_ok c O A) (hT : tf_T O E T) (h : post (tf_x (tf_m (tf_h O E A x 0 0) (tf_f A) 4096)) (nI c, O, K, U, V, A, T)) : ∀ d s, s + d = 4096 → wY_nextCost_12 post x (nI c) O K U V A T (d + 1) (tf_y (tf_m (tf_h O E A x 0 0) (tf_f A) s)) (nI s) := by
  intro d
  induction d with
  | zero =>
    intro s he
    have e12 : s = 4096 := by omega
    subst e12
    exact br_t (nI_le (a := 4096) (b := 4096) (by omega) (by omega)) (sy_told (post := fun r => post r (nI c, O, K, U, V, A, T)) (fun b hb => tf_m_le (fun _ z => tf_tree_le k (tf_h_t z)) 4096 b hb) h)
  | succ d ih =>
    intro s he
    have q := ih (s + 1) (by omega)
    refine br_f (nI_ge (b := 4096) (by omega) (by omega)) ⟨vp_in_nI (by omega) (by omega), ?_⟩
    by_cases zt : tf_tree O E (nI s) = true
    · have hle : tf_f A s ≤ 240 := tf_tree_le k zt
      refine br_f (sy_cell1 hT (by omega) zt) (sy_w k (tf_tree_lo k zt) ?_)
      show (nI (tf_f A s) ≤ x → _) ∧ (¬ nI (tf_f A s) ≤ x → _)
      by_cases zf : nI (tf_f A s) ≤ x
      · rw [tf_m_f (tf_h_n zf)] at q
        exact br_t zf (nm_r (nI_1 s) q)
      · rw [tf_m_t (tf_h_y (tf_g_y zt (tf_and0 _) (tf_and0 _)) zf)] at q
        refine br_f zf ?_
        cases hm : tf_m (tf_h O E A x 0 0) (tf_f A) s with
        | none =>
          rw [hm] at q
          exact br_f (nI_ge (a := tf_f A s) (b := 100000) (by omega) (by omega)) (nm_r (nI_1 s) q)
        | some b =>
          have hb : b ≤ 240 := tf_m_le (fun _ z => tf_tree_le k (tf_h_t z)) s b hm
          rw [hm] at q
          dsimp only at q
          by_cases zb : tf_f A s < b
          · rw [if_pos zb] at q
            exact br_f (nI_ge zb (by omega)) (nm_r (nI_1 s) q)
          · rw [if_neg zb] at q
            exact br_t (nI_le (a := b) (b := tf_f A s) (by omega) (by omega)) (nm_r (nI_1 s) q)
    · rw [tf_m_f (tf_h_g (tf_g_0 zt))] at q
      exact br_t (sy_cell0 hT (by omega) zt) (nm_r (nI_1 s) q)
end
section
variable {post : Int32 → Prop} {c : Nat} {O K : Int32} {E U V A T : Nat → Int32}
theorem sy_li_l {J : Int32 → Prop} {l : Int32} (hc : c ≤ 12) (h : wpY_connects (fun r => (r = 0 → ∀ y : Int32, y = l + 1 → J y) ∧ (¬ r = 0 → post l)) (nI c, O, K, U, V, A, T) (tf_li O A l c)) : ∀ d e, e + d = c → wY_bottleneck_12 post J l (nI c) O K U V A T (d + 1) (tf_li O A l e) (nI e) := by
  intro d
  induction d with
  | zero =>
    intro e he
    have ec : e = c := by omega
    subst ec
    exact br_t (nI_le (Nat.le_refl _) (by omega)) h
  | succ d ih =>
    intro e he
    have q := ih (e + 1) (by omega)
    have hcl : (nI e).toNatClampNeg = e := nI_clamp (by omega)
    refine br_f (nI_ge (by omega) (by omega)) ?_
    by_cases hb : tb_b O e = 0
    · have h1 : ¬ tb_b O e = 1 := fun z => (tb_01 (by omega) O).mp z hb
      rw [tf_li, if_pos hb] at q
      exact br_f h1 (nm_r (nI_1 e) q)
    · have h1 : tb_b O e = 1 := (tb_01 (by omega) O).mpr hb
      refine br_t h1 ⟨vp_in_nI (by omega) (by omega), ?_⟩
      by_cases hr : l < A e
      · rw [tf_li, if_neg hb, if_pos hr] at q
        have hr' : l < A (nI e).toNatClampNeg := by rw [hcl]; exact hr
        exact br_t hr' (nm_r (nI_1 e) q)
      · rw [tf_li, if_neg hb, if_neg hr] at q
        have hr' : ¬ l < A (nI e).toNatClampNeg := by rw [hcl]; exact hr
        exact br_f hr' (nm_e (nm_r (nI_1 e) q))
theorem sy_bo_l (k : tf_ok c O A) (hE : tf_E c E U V) : ∀ d l, l + d = 21 → post (tf_bo O E A d l) → wY_bottleneck_2 post (nI c) O K U V A T (d + 1) (nI l) := by
  intro d
  induction d with
  | zero =>
    intro l hl h
    exact br_t (nI_le (a := 21) (by omega) (by omega)) h
  | succ d ih =>
    intro l hl h
    refine br_f (nI_ge (b := 21) (by omega) (by omega)) ⟨_, sy_li_l (J := wY_bottleneck_2 post (nI c) O K U V A T (d + 1)) (l := nI l) k.1 ?_ c 0 (Nat.zero_add c)⟩
    have hlo : tb_lo (tf_li O A (nI l) c) c := fun j h1 h2 => tf_li_hi c k.1 j h1 h2
    refine sy_con k.1 hE hlo ?_
    rw [← tf_li_12 k.1 k.2.1]
    rw [tf_bo] at h
    by_cases z : tf_out E (tf_li O A (nI l) 12) 12 6 = 127
    · rw [if_pos z] at h
      rw [if_pos z]
      exact br_f (by decide) h
    · rw [if_neg z] at h
      rw [if_neg z]
      exact br_t rfl (nm_r (nI_1 l) (ih (l + 1) (by omega) h))
end
end
section
/-! the relation, and the calls that change something -/
/-- one count, one set of edges that are on, one array of weights; the ends of an edge as one set or as two numbers; the table, once known, is that of the trees -/
def i_Rel (k : Nat) (u : SX) (v : SY) : Prop := ∃ (c : Nat) (O K : Int32) (E U V A T : Nat → Int32), u = (nI c, O, E, A) ∧ v = (nI c, O, K, U, V, A, T) ∧ tf_ok c O A ∧ tf_E c E U V ∧ (¬ K = 0 → tf_T O E T)
theorem i_up {k : Nat} {u : SX} {v : SY} (h : i_Rel k u v) : i_Rel (k + 4) u v := h
theorem i_vc0 : wpX_init (fun u => wpY_init (fun v => i_Rel 0 u v)) :=
  ⟨0, 0, 0, fun _ => 0, fun _ => 0, fun _ => 0, fun _ => 0, fun _ => 0, rfl, rfl, ⟨by omega, tb_lo0 0, fun j hj => absurd hj (Nat.not_lt_zero j)⟩, fun j hj => absurd hj (Nat.not_lt_zero j), fun z => absurd rfl z⟩
theorem sr_mk {k c : Nat} {O K : Int32} {E U V A T : Nat → Int32} (h1 : tf_ok c O A) (h2 : tf_E c E U V) (h3 : ¬ K = 0 → tf_T O E T) : i_Rel k (nI c, O, E, A) (nI c, O, K, U, V, A, T) :=
  ⟨c, O, K, E, U, V, A, T, rfl, rfl, h1, h2, h3⟩
theorem sr_ix (p : Int32) (c : Nat) : (p < 0 ∨ nI c ≤ p) ∨ ∃ j, j < c ∧ p = nI j := by
  by_cases h0 : p < 0
  · exact Or.inl (Or.inl h0)
  · obtain ⟨j, hj, rfl⟩ := nI_of h0
    rcases Nat.lt_or_ge j c with h | h
    · exact Or.inr ⟨j, h, rfl⟩
    · exact Or.inl (Or.inr (nI_le h hj))
theorem sr_76 (p : Int32) : (7 : Int32) ≤ p ↔ (6 : Int32) < p := by
  rw [Int32.le_iff_toInt_le, Int32.lt_iff_toInt_lt]
  have e7 : (7 : Int32).toInt = 7 := by decide
  have e6 : (6 : Int32).toInt = 6 := by decide
  omega
section
variable {post : Int32 → Prop} {c j : Nat} {C O K p : Int32} {E U V A T : Nat → Int32}
theorem sx_vB (h : p < 0 ∨ 6 < p) (hp : post 0) : wpX_isVertex post (C, O, E, A) p := by
  by_cases z : p < 0
  · exact br_t z hp
  · exact br_f z (br_t ((sr_76 p).mpr (h.resolve_left z)) hp)
theorem sx_vG (h : ¬ (p < 0 ∨ 6 < p)) (hp : post 1) : wpX_isVertex post (C, O, E, A) p :=
  br_f (fun z => h (Or.inl z)) (br_f (fun z => h (Or.inr ((sr_76 p).mp z))) hp)
theorem sx_wB (h : p < 0 ∨ 20 < p) (hp : post 0) : wpX_isWeight post (C, O, E, A) p := by
  by_cases z : p < 0
  · exact br_t z hp
  · exact br_f z (br_t (h.resolve_left z) hp)
theorem sx_wG (h : ¬ (p < 0 ∨ 20 < p)) (hp : post 1) : wpX_isWeight post (C, O, E, A) p :=
  br_f (fun z => h (Or.inl z)) (br_f (fun z => h (Or.inr z)) hp)
theorem sx_exB (h : p < 0 ∨ C ≤ p) (hp : post 0) : wpX_exists post (C, O, E, A) p := by
  by_cases z : p < 0
  · exact br_t z hp
  · exact br_f z (br_t (h.resolve_left z) hp)
theorem sx_exG (hc : c ≤ 12) (hj : j < c) (hp : post 1) : wpX_exists post (nI c, O, E, A) (nI j) :=
  br_f (nI_pos (by omega)) (br_f (nI_ge hj (by omega)) hp)
theorem sy_badB (h : p < 0 ∨ C ≤ p) (hp : post 1) : wpY_bad post (C, O, K, U, V, A, T) p := by
  by_cases z : p < 0
  · exact br_t z hp
  · exact br_f z (br_f (Int32.not_lt.mpr (h.resolve_left z)) hp)
theorem sy_badG (hc : c ≤ 12) (hj : j < c) (hp : post 0) : wpY_bad post (nI c, O, K, U, V, A, T) (nI j) :=
  br_f (nI_pos (by omega)) (br_t (nI_lt hj (by omega)) hp)
end
theorem sr_wt {A : Nat → Int32} {c j : Nat} {x : Int32} (h : tf_wt A c) (hx : ¬ (x < 0 ∨ 20 < x)) : tf_wt (upd A j x) c := by
  intro i hi
  unfold upd
  by_cases z : i = j
  · rw [if_pos z]
    exact nI_of2 (M := 20) (n := 20) (by decide) (fun y => hx (Or.inl y)) (Int32.not_lt.mp fun y => hx (Or.inr y))
  · rw [if_neg z]
    exact h i hi
theorem sr_wt1 {A : Nat → Int32} {c : Nat} {x : Int32} (h : tf_wt A c) (hx : ¬ (x < 0 ∨ 20 < x)) : tf_wt (upd A c x) (c + 1) := by
  intro i hi
  unfold upd
  by_cases z : i = c
  · rw [if_pos z]
    exact nI_of2 (M := 20) (n := 20) (by decide) (fun y => hx (Or.inl y)) (Int32.not_lt.mp fun y => hx (Or.inr y))
  · rw [if_neg z]
    exact h i (by omega)
theorem sr_E1 {E U V : Nat → Int32} {c : Nat} {a b : Int32} (h : tf_E c E U V) : tf_E (c + 1) (upd E c (((1 : Int32) <<< (a &&& 31)) ||| ((1 : Int32) <<< (b &&& 31)))) (upd U c a) (upd V c b) := by
  intro i hi
  unfold upd
  by_cases z : i = c
  · rw [if_pos z, if_pos z, if_pos z]
  · rw [if_neg z, if_neg z, if_neg z]
    exact h i (by omega)
/-! edge -/
section
variable {post : Int32 → SY → Prop} {c : Nat} {C O K v1 v2 v3 : Int32} {U V A T : Nat → Int32}
theorem sy_ed2 (h : v1 < 0 ∨ 6 < v1 ∨ v2 < 0 ∨ 6 < v2 ∨ v1 = v2) (hp : post (-2) (C, O, K, U, V, A, T)) : wpY_edge post (C, O, K, U, V, A, T) v1 v2 v3 := by
  by_cases a1 : v1 < 0
  · exact br_t a1 hp
  · refine br_f a1 ?_
    by_cases a2 : 6 < v1
    · exact br_t a2 hp
    · refine br_f a2 ?_
      by_cases a3 : v2 < 0
      · exact br_t a3 hp
      · refine br_f a3 ?_
        by_cases a4 : 6 < v2
        · exact br_t a4 hp
        · exact br_f a4 (br_t ((((h.resolve_left a1).resolve_left a2).resolve_left a3).resolve_left a4) hp)
theorem sy_ed3 (h : ¬ (v1 < 0 ∨ 6 < v1 ∨ v2 < 0 ∨ 6 < v2 ∨ v1 = v2)) (hw : v3 < 0 ∨ 20 < v3) (hp : post (-3) (C, O, K, U, V, A, T)) : wpY_edge post (C, O, K, U, V, A, T) v1 v2 v3 := by
  refine br_f (fun z => h (Or.inl z)) (br_f (fun z => h (Or.inr (Or.inl z))) (br_f (fun z => h (Or.inr (Or.inr (Or.inl z)))) (br_f (fun z => h (Or.inr (Or.inr (Or.inr (Or.inl z))))) (br_f (fun z => h (Or.inr (Or.inr (Or.inr (Or.inr z))))) ?_))))
  by_cases b1 : v3 < 0
  · exact br_t b1 hp
  · exact br_f b1 (br_f (Int32.not_le.mpr (hw.resolve_left b1)) hp)
theorem sy_ed4 (h : ¬ (v1 < 0 ∨ 6 < v1 ∨ v2 < 0 ∨ 6 < v2 ∨ v1 = v2)) (hw : ¬ (v3 < 0 ∨ 20 < v3)) (hC : C = 12) (hp : post (-4) (C, O, K, U, V, A, T)) : wpY_edge post (C, O, K, U, V, A, T) v1 v2 v3 :=
  br_f (fun z => h (Or.inl z)) (br_f (fun z => h (Or.inr (Or.inl z))) (br_f (fun z => h (Or.inr (Or.inr (Or.inl z)))) (br_f (fun z => h (Or.inr (Or.inr (Or.inr (Or.inl z))))) (br_f (fun z => h (Or.inr (Or.inr (Or.inr (Or.inr z))))) (br_f (fun z => hw (Or.inl z)) (br_t (Int32.not_lt.mp fun z => hw (Or.inr z)) (br_t hC hp)))))))
theorem sy_ed5 (h : ¬ (v1 < 0 ∨ 6 < v1 ∨ v2 < 0 ∨ 6 < v2 ∨ v1 = v2)) (hw : ¬ (v3 < 0 ∨ 20 < v3)) (hc : c < 12) (hp : post (nI c) (nI (c + 1), O ||| ((1 : Int32) <<< (nI c &&& 31)), 0, upd U c v1, upd V c v2, upd A c v3, T)) : wpY_edge post (nI c, O, K, U, V, A, T) v1 v2 v3 := by
  have hcl : (nI c).toNatClampNeg = c := nI_clamp (by omega)
  have hin : vp_in (nI c) 12 := vp_in_nI hc (by omega)
  have hne : ¬ nI c = 12 := fun z => by
    have t : nI c = nI 12 := z
    rw [nI_eq (by omega) (by omega)] at t
    omega
  have hU : upd U (nI c).toNatClampNeg v1 = upd U c v1 := by rw [hcl]
  have hV : upd V (nI c).toNatClampNeg v2 = upd V c v2 := by rw [hcl]
  have hA : upd A (nI c).toNatClampNeg v3 = upd A c v3 := by rw [hcl]
  refine br_f (fun z => h (Or.inl z)) (br_f (fun z => h (Or.inr (Or.inl z))) (br_f (fun z => h (Or.inr (Or.inr (Or.inl z)))) (br_f (fun z => h (Or.inr (Or.inr (Or.inr (Or.inl z))))) (br_f (fun z => h (Or.inr (Or.inr (Or.inr (Or.inr z))))) (br_f (fun z => hw (Or.inl z)) (br_t (Int32.not_lt.mp fun z => hw (Or.inr z)) (br_f hne ?_)))))))
  refine ⟨hin, nm_r hU ⟨hin, nm_r hV ⟨hin, nm_r hA (nm_e (nm_r (nI_1 c) ?_))⟩⟩⟩
  rw [nI_pred]
  exact hp
end
theorem i_vc_edge {k : Nat} {u : SX} {v : SY} (I : i_Rel k u v) (hk : k + 4 ≤ 2048) (v1 : Int32) (v2 : Int32) (v3 : Int32) : wpX_edge (fun r u' => wpY_edge (fun r' v' => r' = r ∧ i_Rel (k + 4) u' v') v v1 v2 v3) u v1 v2 v3 := by
  obtain ⟨c, O, K, E, U, V, A, T, rfl, rfl, hok, hE, hT⟩ := I
  unfold wpX_edge
  dsimp only
  by_cases g : v1 < 0 ∨ 6 < v1 ∨ v2 < 0 ∨ 6 < v2 ∨ v1 = v2
  · have hy : wpY_edge (fun r' v' => r' = -2 ∧ i_Rel (k + 4) (nI c, O, E, A) v') (nI c, O, K, U, V, A, T) v1 v2 v3 := sy_ed2 g ⟨rfl, sr_mk hok hE hT⟩
    by_cases a1 : v1 < 0 ∨ 6 < v1
    · exact sx_vB a1 (br_t rfl hy)
    · refine sx_vG a1 (br_f (by decide) ?_)
      by_cases a2 : v2 < 0 ∨ 6 < v2
      · exact sx_vB a2 (br_t rfl hy)
      · have a3 : v1 = v2 := by
          rcases g with z | z | z | z | z
          · exact absurd (Or.inl z) a1
          · exact absurd (Or.inr z) a1
          · exact absurd (Or.inl z) a2
          · exact absurd (Or.inr z) a2
          · exact z
        exact sx_vG a2 (br_f (by decide) (br_t a3 hy))
  · have a1 : ¬ (v1 < 0 ∨ 6 < v1) := fun z => g (z.elim (fun y => Or.inl y) (fun y => Or.inr (Or.inl y)))
    have a2 : ¬ (v2 < 0 ∨ 6 < v2) := fun z => g (z.elim (fun y => Or.inr (Or.inr (Or.inl y))) (fun y => Or.inr (Or.inr (Or.inr (Or.inl y)))))
    have a3 : ¬ v1 = v2 := fun z => g (Or.inr (Or.inr (Or.inr (Or.inr z))))
    refine sx_vG a1 (br_f (by decide) (sx_vG a2 (br_f (by decide) (br_f a3 ?_))))
    by_cases w : v3 < 0 ∨ 20 < v3
    · have hy : wpY_edge (fun r' v' => r' = -3 ∧ i_Rel (k + 4) (nI c, O, E, A) v') (nI c, O, K, U, V, A, T) v1 v2 v3 := sy_ed3 g w ⟨rfl, sr_mk hok hE hT⟩
      exact sx_wB w (br_t rfl hy)
    · refine sx_wG w (br_f (by decide) ?_)
      rcases Nat.lt_or_ge c 12 with hc | hc
      · have hcl : (nI c).toNatClampNeg = c := nI_clamp (by omega)
        have hin : vp_in (nI c) 12 := vp_in_nI hc (by omega)
        have h1 : upd E (nI c).toNatClampNeg (((1 : Int32) <<< (v1 &&& 31)) ||| ((1 : Int32) <<< (v2 &&& 31))) = upd E c (((1 : Int32) <<< (v1 &&& 31)) ||| ((1 : Int32) <<< (v2 &&& 31))) := by rw [hcl]
        have h2 : upd A (nI c).toNatClampNeg v3 = upd A c v3 := by rw [hcl]
        have hok' : tf_ok (c + 1) (O ||| ((1 : Int32) <<< (nI c &&& 31))) (upd A c v3) := ⟨by omega, tb_lo_or hok.2.1 (by omega) (by omega) (by omega), sr_wt1 hok.2.2 w⟩
        exact br_t (nI_lt (b := 12) hc (by omega)) ⟨hin, nm_r h1 ⟨hin, nm_r h2 (nm_e (nm_r (nI_1 c) (sy_ed5 g w hc ⟨rfl, sr_mk hok' (sr_E1 hE) (fun z => absurd rfl z)⟩)))⟩⟩
      · have ec : nI c = 12 := by
          have t : c = 12 := by have := hok.1; omega
          rw [t]; rfl
        have hy : wpY_edge (fun r' v' => r' = -4 ∧ i_Rel (k + 4) (nI c, O, E, A) v') (nI c, O, K, U, V, A, T) v1 v2 v3 := sy_ed4 g w ec ⟨rfl, sr_mk hok hE hT⟩
        exact br_f (nI_nlt (b := 12) hc (by have := hok.1; omega)) hy
theorem i_vc_weigh {k : Nat} {u : SX} {v : SY} (I : i_Rel k u v) (hk : k + 4 ≤ 2048) (v1 : Int32) (v2 : Int32) : wpX_weigh (fun r u' => wpY_weigh (fun r' v' => r' = r ∧ i_Rel (k + 4) u' v') v v1 v2) u v1 v2 := by
  obtain ⟨c, O, K, E, U, V, A, T, rfl, rfl, hok, hE, hT⟩ := I
  unfold wpX_weigh wpY_weigh
  dsimp only
  rcases sr_ix v1 c with hb | ⟨j, hj, rfl⟩
  · exact sx_exB hb (br_t rfl (sy_badB hb (br_f (by decide) ⟨rfl, sr_mk hok hE hT⟩)))
  · refine sx_exG hok.1 hj (br_f (by decide) ?_)
    by_cases w : v2 < 0 ∨ 20 < v2
    · refine sx_wB w (br_t rfl (sy_badG hok.1 hj (br_t rfl ?_)))
      by_cases w1 : v2 < 0
      · exact br_t w1 ⟨rfl, sr_mk hok hE hT⟩
      · exact br_f w1 (br_f (Int32.not_le.mpr (w.resolve_left w1)) ⟨rfl, sr_mk hok hE hT⟩)
    · have h12 := hok.1
      have hin : vp_in (nI j) 12 := vp_in_nI (by omega) (by omega)
      have hok' : tf_ok c O (upd A (nI j).toNatClampNeg v2) := ⟨hok.1, hok.2.1, sr_wt hok.2.2 w⟩
      exact sx_wG w (br_f (by decide) ⟨hin, nm_e ⟨hin, nm_e (sy_badG hok.1 hj (br_t rfl (br_f (fun z => w (Or.inl z)) (br_t (Int32.not_lt.mp fun z => w (Or.inr z)) ⟨hin, nm_e ⟨hin, nm_e ⟨rfl, sr_mk hok' hE hT⟩⟩⟩))))⟩⟩)
theorem i_vc_turn {k : Nat} {u : SX} {v : SY} (I : i_Rel k u v) (hk : k + 4 ≤ 2048) (v1 : Int32) (v2 : Int32) : wpX_turn (fun r u' => wpY_turn (fun r' v' => r' = r ∧ i_Rel (k + 4) u' v') v v1 (lw_bz v2)) u v1 (lw_bz v2) := by
  obtain ⟨c, O, K, E, U, V, A, T, rfl, rfl, hok, hE, hT⟩ := I
  unfold wpX_turn wpY_turn
  dsimp only
  rcases sr_ix v1 c with hb | ⟨j, hj, rfl⟩
  · exact sx_exB hb (br_t rfl (sy_badB hb (br_f (by decide) ⟨rfl, sr_mk hok hE hT⟩)))
  · have h12 := hok.1
    have ok1 : tf_ok c (O &&& (((1 : Int32) <<< (nI j &&& 31)) ^^^ (-1))) A := ⟨hok.1, tb_lo_cl j hok.2.1, hok.2.2⟩
    have ok2 : tf_ok c (O ||| ((1 : Int32) <<< (nI j &&& 31))) A := ⟨hok.1, tb_lo_or hok.2.1 (Nat.le_refl c) hj hok.1, hok.2.2⟩
    refine sx_exG hok.1 hj (br_f (by decide) (nm_e ?_))
    by_cases hz : (O &&& ((1 : Int32) <<< (nI j &&& 31))) = 0
    · have hr : tb_b O j = 0 := tb_f (by omega) ((tb_an (by omega) O).mp hz)
      refine br_t hz ?_
      by_cases hv : lw_bz v2 = 0
      · exact br_t hv (nm_e (sy_badG hok.1 hj (br_t rfl (nm_e (br_t hv (nm_e ⟨hr, sr_mk ok1 hE (fun z => absurd rfl z)⟩))))))
      · exact br_f hv (nm_e (sy_badG hok.1 hj (br_t rfl (nm_e (br_f hv (nm_e ⟨hr, sr_mk ok2 hE (fun z => absurd rfl z)⟩))))))
    · have hr : tb_b O j = 1 := (tb_01 (by omega) O).mpr (fun z => hz ((tb_an (by omega) O).mpr ((tb_0 (by omega) O).mp z)))
      refine br_f hz ?_
      by_cases hv : lw_bz v2 = 0
      · exact br_t hv (nm_e (sy_badG hok.1 hj (br_t rfl (nm_e (br_t hv (nm_e ⟨hr, sr_mk ok1 hE (fun z => absurd rfl z)⟩))))))
      · exact br_f hv (nm_e (sy_badG hok.1 hj (br_t rfl (nm_e (br_f hv (nm_e ⟨hr, sr_mk ok2 hE (fun z => absurd rfl z)⟩))))))
theorem i_vc_drop {k : Nat} {u : SX} {v : SY} (I : i_Rel k u v) (hk : k + 4 ≤ 2048) : wpX_drop (fun r u' => wpY_drop (fun r' v' => r' = r ∧ i_Rel (k + 4) u' v') v) u := by
  obtain ⟨c, O, K, E, U, V, A, T, rfl, rfl, hok, hE, hT⟩ := I
  unfold wpX_drop wpY_drop
  dsimp only
  cases c with
  | zero => exact br_f (nI_nlt (a := 0) (b := 0) (by omega) (by omega)) (br_t nI_0 ⟨rfl, sr_mk hok hE hT⟩)
  | succ c =>
    have h12 := hok.1
    have hok' : tf_ok c (O &&& (((1 : Int32) <<< (nI c &&& 31)) ^^^ (-1))) A := ⟨by omega, tb_lo_dr (by omega) hok.2.1, fun i hi => hok.2.2 i (by omega)⟩
    have hE' : tf_E c E U V := fun i hi => hE i (by omega)
    exact br_t (nI_lt (a := 0) (b := c + 1) (by omega) (by omega)) (nm_r (nI_pred c) (nm_e (br_f (nI_ne0 (by omega) (by omega)) (nm_r (nI_pred c) (nm_e ⟨rfl, sr_mk hok' hE' (fun z => absurd rfl z)⟩)))))
end
section
/-! the calls that only ask -/
theorem sr_le {c : Nat} {O w o : Int32} {E A : Nat → Int32} (k : tf_ok c O A) : ∀ b, tf_L O E A w o = some b → b ≤ 240 := fun _ h => tf_L_le k h
theorem i_vc_cost {k : Nat} {u : SX} {v : SY} (I : i_Rel k u v) (hk : k + 4 ≤ 2048) : wpX_cost (fun r => wpY_cost (fun r' v' => r' = r ∧ i_Rel (k + 4) u v') v) u := by
  obtain ⟨c, O, K, E, U, V, A, T, rfl, rfl, hok, hE, hT⟩ := I
  unfold wpX_cost wpY_cost
  dsimp only
  refine sx_le1 hok (sy_le hok hE hT (fun K' T' hk' ht => ?_))
  exact sy_told (sr_le hok) ⟨rfl, sr_mk hok hE (fun _ => ht)⟩
theorem i_vc_cheapest {k : Nat} {u : SX} {v : SY} (I : i_Rel k u v) (hk : k + 4 ≤ 2048) : wpX_cheapest (fun r => wpY_cheapest (fun r' v' => r' = r ∧ i_Rel (k + 4) u v') v) u := by
  obtain ⟨c, O, K, E, U, V, A, T, rfl, rfl, hok, hE, hT⟩ := I
  unfold wpX_cheapest wpY_cheapest
  dsimp only
  refine sx_le1 hok ⟨_, sx_ch_l hok ?_ 4096 0 rfl⟩
  refine sy_le hok hE hT (fun K' T' hk' ht => ⟨_, sy_ch_l hok ht ?_ 4096 0 rfl⟩)
  rw [tf_c_xy hok]
  exact ⟨rfl, sr_mk hok hE (fun _ => ht)⟩
theorem i_vc_trees {k : Nat} {u : SX} {v : SY} (I : i_Rel k u v) (hk : k + 4 ≤ 2048) : wpX_trees (fun r => wpY_trees (fun r' v' => r' = r ∧ i_Rel (k + 4) u v') v) u := by
  obtain ⟨c, O, K, E, U, V, A, T, rfl, rfl, hok, hE, hT⟩ := I
  unfold wpX_trees wpY_trees
  dsimp only
  refine ⟨_, sx_tr_l ?_ 4096 0 rfl⟩
  exact sy_wo hok hE hT (fun K' T' hk' ht => ⟨_, sy_tr_l ht ⟨rfl, sr_mk hok hE (fun _ => ht)⟩ 4096 0 rfl⟩)
theorem i_vc_costWith {k : Nat} {u : SX} {v : SY} (I : i_Rel k u v) (hk : k + 4 ≤ 2048) (v1 : Int32) : wpX_costWith (fun r => wpY_costWith (fun r' v' => r' = r ∧ i_Rel (k + 4) u v') v v1) u v1 := by
  obtain ⟨c, O, K, E, U, V, A, T, rfl, rfl, hok, hE, hT⟩ := I
  unfold wpX_costWith wpY_costWith
  dsimp only
  rcases sr_ix v1 c with hb | ⟨j, hj, rfl⟩
  · exact sx_exB hb (br_t rfl (sy_badB hb (br_f (by decide) ⟨rfl, sr_mk hok hE hT⟩)))
  · refine sx_exG hok.1 hj (br_f (by decide) (sx_le1 hok (sy_badG hok.1 hj (br_t rfl (sy_le hok hE hT (fun K' T' hk' ht => ?_))))))
    exact sy_told (sr_le hok) ⟨rfl, sr_mk hok hE (fun _ => ht)⟩
theorem i_vc_costWithout {k : Nat} {u : SX} {v : SY} (I : i_Rel k u v) (hk : k + 4 ≤ 2048) (v1 : Int32) : wpX_costWithout (fun r => wpY_costWithout (fun r' v' => r' = r ∧ i_Rel (k + 4) u v') v v1) u v1 := by
  obtain ⟨c, O, K, E, U, V, A, T, rfl, rfl, hok, hE, hT⟩ := I
  unfold wpX_costWithout wpY_costWithout
  dsimp only
  rcases sr_ix v1 c with hb | ⟨j, hj, rfl⟩
  · exact sx_exB hb (br_t rfl (sy_badB hb (br_f (by decide) ⟨rfl, sr_mk hok hE hT⟩)))
  · refine sx_exG hok.1 hj (br_f (by decide) (sx_le1 hok (sy_badG hok.1 hj (br_t rfl (sy_le hok hE hT (fun K' T' hk' ht => ?_))))))
    exact sy_told (sr_le hok) ⟨rfl, sr_mk hok hE (fun _ => ht)⟩
/-! some cheapest tree has the edge -/
theorem sx_isc {post : Int32 → Prop} {c : Nat} {C O p : Int32} {E A : Nat → Int32} (k : tf_ok c O A) (h : post (if tf_some (tf_L O E A ((1 : Int32) <<< (p &&& 31)) 0) (tf_L O E A 0 0) = true then 1 else 0)) : wpX_isInSomeCheapest post (C, O, E, A) p := by
  unfold wpX_isInSomeCheapest
  dsimp only
  refine sx_le1 k (sx_le1 k ?_)
  have hw := sr_le (E := E) (w := (1 : Int32) <<< (p &&& 31)) (o := 0) k
  have hl := sr_le (E := E) (w := 0) (o := 0) k
  revert h hw hl
  generalize tf_L O E A ((1 : Int32) <<< (p &&& 31)) 0 = Lw
  generalize tf_L O E A 0 0 = L
  intro h hw hl
  cases Lw with
  | none => exact br_t rfl h
  | some a =>
    have ha := hw a rfl
    refine br_f (tf_x_ne ha) ?_
    cases L with
    | none => exact br_f (tf_x_ne ha) h
    | some b =>
      have hb := hl b rfl
      by_cases z : a = b
      · have t : tf_some (some a) (some b) = true := decide_eq_true z
        rw [if_pos t] at h
        exact br_t (congrArg nI z) h
      · have t : ¬ tf_some (some a) (some b) = true := fun y => z (of_decide_eq_true y)
        rw [if_neg t] at h
        exact br_f (fun y => z ((nI_eq (by omega) (by omega)).mp y)) h
theorem sy_isc {post : Int32 → SY → Prop} {c j : Nat} {O K : Int32} {E U V A T : Nat → Int32} (k : tf_ok c O A) (hE : tf_E c E U V) (hT : ¬ K = 0 → tf_T O E T) (hj : j < c) (h : ∀ K' T', ¬ K' = 0 → tf_T O E T' → post (if tf_some (tf_L O E A ((1 : Int32) <<< (nI j &&& 31)) 0) (tf_L O E A 0 0) = true then 1 else 0) (nI c, O, K', U, V, A, T')) : wpY_inSome post (nI c, O, K, U, V, A, T) (nI j) := by
  unfold wpY_inSome
  dsimp only
  refine sy_badG k.1 hj (br_t rfl (sy_le k hE hT (fun K' T' hk' ht => ?_)))
  dsimp only
  have hw := sr_le (E := E) (w := (1 : Int32) <<< (nI j &&& 31)) (o := 0) k
  have hl := sr_le (E := E) (w := 0) (o := 0) k
  cases hL : tf_L O E A 0 0 with
  | none =>
    have t : ¬ tf_some (tf_L O E A ((1 : Int32) <<< (nI j &&& 31)) 0) none = true := by
      cases tf_L O E A ((1 : Int32) <<< (nI j &&& 31)) 0 <;> exact fun y => Bool.noConfusion y
    have h' := h K' T' hk' ht
    rw [hL, if_neg t] at h'
    exact br_t (nI_le (a := 100000) (b := 100000) (by omega) (by omega)) h'
  | some b =>
    have hb := hl b hL
    refine br_f (nI_ge (b := 100000) (by omega) (by omega)) (sy_le k hE (fun _ => ht) (fun K1 T1 hk1 ht1 => ?_))
    dsimp only
    have h' := h K1 T1 hk1 ht1
    rw [hL] at h'
    cases hW : tf_L O E A ((1 : Int32) <<< (nI j &&& 31)) 0 with
    | none =>
      rw [hW] at h'
      exact br_f (fun y => tf_y_ne hb y.symm) h'
    | some a =>
      have ha := hw a hW
      rw [hW] at h'
      by_cases z : a = b
      · have t : tf_some (some a) (some b) = true := decide_eq_true z
        rw [if_pos t] at h'
        exact br_t (congrArg nI z) h'
      · have t : ¬ tf_some (some a) (some b) = true := fun y => z (of_decide_eq_true y)
        rw [if_neg t] at h'
        exact br_f (fun y => z ((nI_eq (by omega) (by omega)).mp y)) h'
theorem i_vc_inSome {k : Nat} {u : SX} {v : SY} (I : i_Rel k u v) (hk : k + 4 ≤ 2048) (v1 : Int32) : wpX_inSome (fun r => wpY_inSome (fun r' v' => r' = r ∧ i_Rel (k + 4) u v') v v1) u v1 := by
  obtain ⟨c, O, K, E, U, V, A, T, rfl, rfl, hok, hE, hT⟩ := I
  unfold wpX_inSome
  dsimp only
  rcases sr_ix v1 c with hb | ⟨j, hj, rfl⟩
  · unfold wpY_inSome
    dsimp only
    exact sx_exB hb (br_t rfl (sy_badB hb (br_f (by decide) ⟨rfl, sr_mk hok hE hT⟩)))
  · refine sx_exG hok.1 hj (br_f (by decide) (sx_isc hok ?_))
    by_cases z : tf_some (tf_L O E A ((1 : Int32) <<< (nI j &&& 31)) 0) (tf_L O E A 0 0) = true
    · rw [if_pos z]
      refine br_f (by decide) (sy_isc hok hE hT hj (fun K' T' hk' ht => ?_))
      rw [if_pos z]
      exact ⟨rfl, sr_mk hok hE (fun _ => ht)⟩
    · rw [if_neg z]
      refine br_t rfl (sy_isc hok hE hT hj (fun K' T' hk' ht => ?_))
      rw [if_neg z]
      exact ⟨rfl, sr_mk hok hE (fun _ => ht)⟩
theorem i_vc_inAll {k : Nat} {u : SX} {v : SY} (I : i_Rel k u v) (hk : k + 4 ≤ 2048) (v1 : Int32) : wpX_inAll (fun r => wpY_inAll (fun r' v' => r' = r ∧ i_Rel (k + 4) u v') v v1) u v1 := by
  obtain ⟨c, O, K, E, U, V, A, T, rfl, rfl, hok, hE, hT⟩ := I
  unfold wpX_inAll wpY_inAll
  dsimp only
  rcases sr_ix v1 c with hb | ⟨j, hj, rfl⟩
  · exact sx_exB hb (br_t rfl (sy_badB hb (br_f (by decide) ⟨rfl, sr_mk hok hE hT⟩)))
  · refine sx_exG hok.1 hj (br_f (by decide) (sx_le1 hok (sx_le1 hok ?_)))
    have hl := sr_le (E := E) (w := 0) (o := 0) hok
    have hn := sr_le (E := E) (w := 0) (o := (1 : Int32) <<< (nI j &&& 31)) hok
    cases hL : tf_L O E A 0 0 with
    | none =>
      refine br_t rfl (sy_badG hok.1 hj (br_t rfl (sy_le hok hE hT (fun K' T' hk' ht => ?_))))
      rw [hL]
      exact br_t (nI_le (a := 100000) (b := 100000) (by omega) (by omega)) ⟨rfl, sr_mk hok hE (fun _ => ht)⟩
    | some b =>
      have hb := hl b hL
      refine br_f (tf_x_ne hb) ?_
      cases hN : tf_L O E A 0 ((1 : Int32) <<< (nI j &&& 31)) with
      | none =>
        refine br_f (fun y => tf_x_ne hb y.symm) (sy_badG hok.1 hj (br_t rfl (sy_le hok hE hT (fun K' T' hk' ht => ?_))))
        rw [hL]
        refine br_f (nI_ge (b := 100000) (by omega) (by omega)) (sy_le hok hE (fun _ => ht) (fun K1 T1 hk1 ht1 => ?_))
        rw [hN]
        exact br_f (nI_ge (b := 100000) (by omega) (by omega)) ⟨rfl, sr_mk hok hE (fun _ => ht1)⟩
      | some d =>
        have hd := hn d hN
        obtain ⟨b', e1, l1⟩ := tf_L_o hN
        rw [hL] at e1
        cases e1
        by_cases z : d = b
        · refine br_t (congrArg nI z) (sy_badG hok.1 hj (br_t rfl (sy_le hok hE hT (fun K' T' hk' ht => ?_))))
          rw [hL]
          refine br_f (nI_ge (b := 100000) (by omega) (by omega)) (sy_le hok hE (fun _ => ht) (fun K1 T1 hk1 ht1 => ?_))
          rw [hN]
          exact br_t (nI_le (by omega) (by omega)) ⟨rfl, sr_mk hok hE (fun _ => ht1)⟩
        · refine br_f (fun y => z ((nI_eq (by omega) (by omega)).mp y)) (sy_badG hok.1 hj (br_t rfl (sy_le hok hE hT (fun K' T' hk' ht => ?_))))
          rw [hL]
          refine br_f (nI_ge (b := 100000) (by omega) (by omega)) (sy_le hok hE (fun _ => ht) (fun K1 T1 hk1 ht1 => ?_))
          rw [hN]
          exact br_f (nI_ge (by omega) (by omega)) ⟨rfl, sr_mk hok hE (fun _ => ht1)⟩
theorem sr_some {Lw L : Option Nat} (h : tf_some Lw L = true) : ∃ a, Lw = some a ∧ L = some a := by
  cases Lw with
  | none => exact Bool.noConfusion h
  | some a =>
    cases L with
    | none => exact Bool.noConfusion h
    | some b => exact ⟨a, rfl, congrArg some (of_decide_eq_true h).symm⟩
theorem i_vc_slack {k : Nat} {u : SX} {v : SY} (I : i_Rel k u v) (hk : k + 4 ≤ 2048) (v1 : Int32) : wpX_slack (fun r => wpY_slack (fun r' v' => r' = r ∧ i_Rel (k + 4) u v') v v1) u v1 := by
  obtain ⟨c, O, K, E, U, V, A, T, rfl, rfl, hok, hE, hT⟩ := I
  unfold wpX_slack wpY_slack
  dsimp only
  rcases sr_ix v1 c with hb | ⟨j, hj, rfl⟩
  · exact sx_exB hb (br_t rfl (sy_badB hb (br_f (by decide) ⟨rfl, sr_mk hok hE hT⟩)))
  · refine sx_exG hok.1 hj (br_f (by decide) (sx_isc hok ?_))
    by_cases z : tf_some (tf_L O E A ((1 : Int32) <<< (nI j &&& 31)) 0) (tf_L O E A 0 0) = true
    · rw [if_pos z]
      obtain ⟨a, eW, eL⟩ := sr_some z
      have hn := sr_le (E := E) (w := 0) (o := (1 : Int32) <<< (nI j &&& 31)) hok
      refine br_f (by decide) (sx_le1 hok ?_)
      cases hN : tf_L O E A 0 ((1 : Int32) <<< (nI j &&& 31)) with
      | none =>
        refine br_t rfl (sy_badG hok.1 hj (br_t rfl (sy_isc hok hE hT hj (fun K' T' hk' ht => ?_))))
        rw [if_pos z]
        refine br_f (by decide) (sy_le hok hE (fun _ => ht) (fun K1 T1 hk1 ht1 => sy_le hok hE (fun _ => ht1) (fun K2 T2 hk2 ht2 => ?_)))
        rw [hN]
        exact br_t rfl ⟨rfl, sr_mk hok hE (fun _ => ht2)⟩
      | some d =>
        have hd := hn d hN
        refine br_f (tf_x_ne hd) (sx_le1 hok ?_)
        refine sy_badG hok.1 hj (br_t rfl (sy_isc hok hE hT hj (fun K' T' hk' ht => ?_)))
        rw [if_pos z]
        refine br_f (by decide) (sy_le hok hE (fun _ => ht) (fun K1 T1 hk1 ht1 => sy_le hok hE (fun _ => ht1) (fun K2 T2 hk2 ht2 => ?_)))
        rw [hN, eL, eW]
        exact br_f (tf_y_ne hd) ⟨rfl, sr_mk hok hE (fun _ => ht2)⟩
    · rw [if_neg z]
      refine br_t rfl (sy_badG hok.1 hj (br_t rfl (sy_isc hok hE hT hj (fun K' T' hk' ht => ?_))))
      rw [if_neg z]
      exact br_t rfl ⟨rfl, sr_mk hok hE (fun _ => ht)⟩
theorem i_vc_nextCost {k : Nat} {u : SX} {v : SY} (I : i_Rel k u v) (hk : k + 4 ≤ 2048) : wpX_nextCost (fun r => wpY_nextCost (fun r' v' => r' = r ∧ i_Rel (k + 4) u v') v) u := by
  obtain ⟨c, O, K, E, U, V, A, T, rfl, rfl, hok, hE, hT⟩ := I
  unfold wpX_nextCost wpY_nextCost
  dsimp only
  refine sx_le1 hok ?_
  cases hL : tf_L O E A 0 0 with
  | none =>
    refine br_t rfl (sy_le hok hE hT (fun K' T' hk' ht => ?_))
    rw [hL]
    refine ⟨_, sy_nx_l (x := 100000) hok ht ?_ 4096 0 rfl⟩
    rw [tf_h_no hok]
    exact ⟨rfl, sr_mk hok hE (fun _ => ht)⟩
  | some b =>
    have hb := tf_L_le hok hL
    refine br_f (tf_x_ne hb) (sx_le hok (sy_le hok hE hT (fun K' T' hk' ht => ?_)))
    rw [hL]
    exact ⟨_, sy_nx_l (x := nI b) hok ht ⟨rfl, sr_mk hok hE (fun _ => ht)⟩ 4096 0 rfl⟩
theorem i_vc_bottleneck {k : Nat} {u : SX} {v : SY} (I : i_Rel k u v) (hk : k + 4 ≤ 2048) : wpX_bottleneck (fun r => wpY_bottleneck (fun r' => r' = r ∧ i_Rel (k + 4) u v) v) u := by
  obtain ⟨c, O, K, E, U, V, A, T, rfl, rfl, hok, hE, hT⟩ := I
  unfold wpX_bottleneck wpY_bottleneck
  dsimp only
  exact ⟨_, sx_bo_l 21 0 rfl ⟨_, sy_bo_l hok hE 21 0 rfl ⟨rfl, sr_mk hok hE hT⟩⟩⟩
end
