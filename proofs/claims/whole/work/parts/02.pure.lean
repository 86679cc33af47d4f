/-! the pure pictures: size, reach, tree, weight, light edges, least, count -/
def tf_sz (S : Int32) : Nat → Int32
  | 0 => 0
  | e + 1 => tf_sz S e + tb_b S e
def tf_in (E : Nat → Int32) (S : Int32) (r : Int32) : Nat → Int32
  | 0 => r
  | e + 1 => if tb_b S e = 0 then tf_in E S r e else if (tf_in E S r e &&& E e) = 0 then tf_in E S r e else tf_in E S r e ||| E e
def tf_out (E : Nat → Int32) (S : Int32) (m : Nat) : Nat → Int32
  | 0 => 1
  | k + 1 => tf_in E S (tf_out E S m k) m
def tf_tree (O : Int32) (E : Nat → Int32) (S : Int32) : Bool :=
  decide ((S &&& (O ^^^ (-1))) = 0) && (decide (tf_sz S 12 = 6) && decide (tf_out E S 12 6 = 127))
def tf_w (A : Nat → Int32) (S : Int32) : Nat → Nat
  | 0 => 0
  | e + 1 => if tb_b S e = 0 then tf_w A S e else tf_w A S e + (A e).toNatClampNeg
def tf_li (O : Int32) (A : Nat → Int32) (l : Int32) : Nat → Int32
  | 0 => 0
  | e + 1 => if tb_b O e = 0 then tf_li O A l e else if l < A e then tf_li O A l e else tf_li O A l e ||| ((1 : Int32) <<< (nI e &&& 31))
def tf_m (g : Nat → Bool) (f : Nat → Nat) : Nat → Option Nat
  | 0 => none
  | s + 1 => if g s = true then (match tf_m g f s with | none => some (f s) | some b => if f s < b then some (f s) else some b) else tf_m g f s
def tf_x : Option Nat → Int32
  | none => -5
  | some n => nI n
def tf_y : Option Nat → Int32
  | none => 100000
  | some n => nI n
def tf_k (g : Nat → Bool) : Nat → Nat
  | 0 => 0
  | s + 1 => if g s = true then tf_k g s + 1 else tf_k g s
/-! a set without bits from c on: the fold over twelve is the fold over c -/
theorem tf_in_c {E : Nat → Int32} {S r : Int32} {c : Nat} (h : tb_lo S c) : ∀ d, c + d ≤ 12 → tf_in E S r (c + d) = tf_in E S r c := by
  intro d
  induction d with
  | zero => intro _; rfl
  | succ d ih =>
    intro hd
    have hz : tb_b S (c + d) = 0 := tb_f (by omega) (h (c + d) (by omega) (by omega))
    show tf_in E S r (c + d + 1) = _
    rw [tf_in, if_pos hz, ih (by omega)]
theorem tf_out_c {E : Nat → Int32} {S : Int32} {c : Nat} (hc : c ≤ 12) (h : tb_lo S c) : ∀ k, tf_out E S 12 k = tf_out E S c k := by
  intro k
  induction k with
  | zero => rfl
  | succ k ih =>
    have t := tf_in_c (E := E) (r := tf_out E S c k) h (12 - c) (by omega)
    rw [show c + (12 - c) = 12 by omega] at t
    rw [tf_out, tf_out, ih, t]
theorem tf_li_c {O : Int32} {A : Nat → Int32} {l : Int32} {c : Nat} (h : tb_lo O c) : ∀ d, c + d ≤ 12 → tf_li O A l (c + d) = tf_li O A l c := by
  intro d
  induction d with
  | zero => intro _; rfl
  | succ d ih =>
    intro hd
    have hz : tb_b O (c + d) = 0 := tb_f (by omega) (h (c + d) (by omega) (by omega))
    show tf_li O A l (c + d + 1) = _
    rw [tf_li, if_pos hz, ih (by omega)]
theorem tf_li_12 {O : Int32} {A : Nat → Int32} {l : Int32} {c : Nat} (hc : c ≤ 12) (h : tb_lo O c) : tf_li O A l 12 = tf_li O A l c := by
  have t := tf_li_c (A := A) (l := l) h (12 - c) (by omega)
  rw [show c + (12 - c) = 12 by omega] at t
  exact t
theorem tf_li_hi {O : Int32} {A : Nat → Int32} {l : Int32} : ∀ m, m ≤ 12 → ∀ j, m ≤ j → j < 12 → bt (tf_li O A l m) j = false := by
  intro m
  induction m with
  | zero => intro _ j _ _; exact b_0 j
  | succ m ih =>
    intro hm j h1 h2
    have t := ih (by omega) j (by omega) h2
    rw [tf_li]
    split
    · exact t
    · split
      · exact t
      · rw [b_or, t, tb_sl (by omega) (by omega), decide_eq_false (by omega)]; rfl
/-! the weight of a set -/
def tf_wt (A : Nat → Int32) (c : Nat) : Prop := ∀ j, j < c → ∃ n, n ≤ 20 ∧ A j = nI n
theorem tf_w_le {A : Nat → Int32} {S : Int32} {c : Nat} (ha : tf_wt A c) (hs : tb_lo S c) : ∀ m, m ≤ 12 → tf_w A S m ≤ 20 * m := by
  intro m
  induction m with
  | zero => intro _; exact Nat.le_refl _
  | succ m ih =>
    intro hm
    have t := ih (by omega)
    rw [tf_w]
    split
    · omega
    · rename_i z
      rcases Nat.lt_or_ge m c with h | h
      · obtain ⟨n, hn, en⟩ := ha m h
        rw [en, nI_clamp (by omega)]
        omega
      · exact absurd (tb_f (by omega) (hs m h (by omega))) z
theorem tf_w_240 {A : Nat → Int32} {S : Int32} {c : Nat} (ha : tf_wt A c) (hs : tb_lo S c) : tf_w A S 12 ≤ 240 := tf_w_le ha hs 12 (by omega)
theorem tf_w_c {A : Nat → Int32} {S : Int32} {c : Nat} (hs : tb_lo S c) : ∀ d, c + d ≤ 12 → tf_w A S (c + d) = tf_w A S c := by
  intro d
  induction d with
  | zero => intro _; rfl
  | succ d ih =>
    intro hd
    have hz : tb_b S (c + d) = 0 := tb_f (by omega) (hs (c + d) (by omega) (by omega))
    show tf_w A S (c + d + 1) = _
    rw [tf_w, if_pos hz, ih (by omega)]
theorem tf_w_12 {A : Nat → Int32} {S : Int32} {c : Nat} (hc : c ≤ 12) (hs : tb_lo S c) : tf_w A S 12 = tf_w A S c := by
  have t := tf_w_c (A := A) hs (12 - c) (by omega)
  rw [show c + (12 - c) = 12 by omega] at t
  exact t
/-- a step of the sum, at an edge of the set -/
theorem tf_w_st {A : Nat → Int32} {S : Int32} {c e : Nat} (ha : tf_wt A c) (hs : tb_lo S c) (he : e < 12) (hb : ¬ tb_b S e = 0) : nI (tf_w A S e) + A e = nI (tf_w A S (e + 1)) := by
  rw [tf_w, if_neg hb]
  rcases Nat.lt_or_ge e c with h | h
  · obtain ⟨n, hn, en⟩ := ha e h
    rw [en, nI_clamp (by omega), nI_add]
  · exact absurd (tb_f (by omega) (hs e h he)) hb
/-! least -/
theorem tf_m_t {g : Nat → Bool} {f : Nat → Nat} {s : Nat} (h : g s = true) : tf_m g f (s + 1) = match tf_m g f s with | none => some (f s) | some b => if f s < b then some (f s) else some b := by
  rw [tf_m, if_pos h]
theorem tf_m_f {g : Nat → Bool} {f : Nat → Nat} {s : Nat} (h : ¬ g s = true) : tf_m g f (s + 1) = tf_m g f s := by
  rw [tf_m, if_neg h]
theorem tf_m_le {g : Nat → Bool} {f : Nat → Nat} {B : Nat} (h : ∀ s, g s = true → f s ≤ B) : ∀ m b, tf_m g f m = some b → b ≤ B := by
  intro m
  induction m with
  | zero => intro b hb; rw [tf_m] at hb; cases hb
  | succ m ih =>
    intro b hb
    by_cases hg : g m = true
    · rw [tf_m_t hg] at hb
      cases hm : tf_m g f m with
      | none =>
        rw [hm] at hb
        cases hb
        exact h m hg
      | some b0 =>
        rw [hm] at hb
        dsimp only at hb
        split at hb
        · cases hb; exact h m hg
        · cases hb; exact ih _ hm
    · rw [tf_m_f hg] at hb
      exact ih b hb
theorem tf_m_none {g : Nat → Bool} {f : Nat → Nat} (h : ∀ s, ¬ g s = true) : ∀ m, tf_m g f m = none := by
  intro m
  induction m with
  | zero => rfl
  | succ m ih => rw [tf_m_f (h m), ih]
theorem tf_m_ext {g g' : Nat → Bool} {f : Nat → Nat} (h : ∀ s, g s = g' s) (m : Nat) : tf_m g f m = tf_m g' f m := by
  rw [funext h]
/-- over more sets the least is no greater -/
theorem tf_m_mono {g g' : Nat → Bool} {f : Nat → Nat} (h : ∀ s, g s = true → g' s = true) : ∀ m b, tf_m g f m = some b → ∃ b', tf_m g' f m = some b' ∧ b' ≤ b := by
  intro m
  induction m with
  | zero => intro b hb; rw [tf_m] at hb; cases hb
  | succ m ih =>
    intro b hb
    by_cases hg : g m = true
    · rw [tf_m_t hg] at hb
      rw [tf_m_t (h m hg)]
      cases hm : tf_m g f m with
      | none =>
        rw [hm] at hb
        cases hb
        cases hm' : tf_m g' f m with
        | none => exact ⟨_, rfl, Nat.le_refl _⟩
        | some b1 =>
          dsimp only
          by_cases z : f m < b1
          · rw [if_pos z]; exact ⟨_, rfl, Nat.le_refl _⟩
          · rw [if_neg z]; exact ⟨_, rfl, by omega⟩
      | some b0 =>
        obtain ⟨b1, e1, l1⟩ := ih b0 hm
        rw [hm] at hb
        rw [e1]
        dsimp only at hb ⊢
        by_cases z0 : f m < b0
        · rw [if_pos z0] at hb
          cases hb
          by_cases z : f m < b1
          · rw [if_pos z]; exact ⟨_, rfl, Nat.le_refl _⟩
          · rw [if_neg z]; exact ⟨_, rfl, by omega⟩
        · rw [if_neg z0] at hb
          cases hb
          by_cases z : f m < b1
          · rw [if_pos z]; exact ⟨_, rfl, by omega⟩
          · rw [if_neg z]; exact ⟨_, rfl, l1⟩
    · rw [tf_m_f hg] at hb
      obtain ⟨b1, e1, l1⟩ := ih b hb
      by_cases hg' : g' m = true
      · rw [tf_m_t hg', e1]
        dsimp only
        by_cases z : f m < b1
        · rw [if_pos z]; exact ⟨_, rfl, by omega⟩
        · rw [if_neg z]; exact ⟨_, rfl, l1⟩
      · rw [tf_m_f hg']
        exact ⟨b1, e1, l1⟩
theorem tf_k_le (g : Nat → Bool) : ∀ m, tf_k g m ≤ m := by
  intro m
  induction m with
  | zero => exact Nat.le_refl _
  | succ m ih => rw [tf_k]; split <;> omega
/-! the two readings of none -/
theorem tf_x_ne {n : Nat} (h : n ≤ 240) : ¬ nI n = (-5 : Int32) := by
  intro z
  have t := congrArg Int32.toInt z
  rw [nI_toInt (by omega)] at t
  have e : (-5 : Int32).toInt = -5 := by decide
  omega
theorem tf_y_ne {n : Nat} (h : n ≤ 240) : ¬ nI n = (100000 : Int32) := by
  intro z
  have t : nI n = nI 100000 := z
  rw [nI_eq (by omega) (by omega)] at t
  omega
theorem tf_y_lt {n : Nat} (h : n ≤ 240) : nI n < (100000 : Int32) := nI_lt (b := 100000) (by omega) (by omega)
theorem tf_m1_lt {n : Nat} (h : n ≤ 240) : (-1 : Int32) < nI n := by
  rw [Int32.lt_iff_toInt_lt, nI_toInt (by omega)]
  have e : (-1 : Int32).toInt = -1 := by decide
  omega
/-! the sets that a question looks at -/
def tf_f (A : Nat → Int32) (s : Nat) : Nat := tf_w A (nI s) 12
def tf_g (O : Int32) (E : Nat → Int32) (w o : Int32) (s : Nat) : Bool := tf_tree O E (nI s) && (decide ((nI s &&& w) = w) && decide ((nI s &&& o) = 0))
def tf_h (O : Int32) (E A : Nat → Int32) (fl w o : Int32) (s : Nat) : Bool := tf_g O E w o s && decide (fl < nI (tf_f A s))
def tf_L (O : Int32) (E A : Nat → Int32) (w o : Int32) : Option Nat := tf_m (tf_g O E w o) (tf_f A) 4096
def tf_c (O : Int32) (E A : Nat → Int32) (x : Int32) (s : Nat) : Bool := tf_tree O E (nI s) && decide (nI (tf_f A s) = x)
def tf_t (O : Int32) (E : Nat → Int32) (s : Nat) : Bool := tf_tree O E (nI s)
def tf_ok (c : Nat) (O : Int32) (A : Nat → Int32) : Prop := c ≤ 12 ∧ tb_lo O c ∧ tf_wt A c
theorem tf_tree_t {O S : Int32} {E : Nat → Int32} (h1 : (S &&& (O ^^^ (-1))) = 0) (h2 : tf_sz S 12 = 6) (h3 : tf_out E S 12 6 = 127) : tf_tree O E S = true := by
  unfold tf_tree
  rw [decide_eq_true h1, decide_eq_true h2, decide_eq_true h3]
  rfl
theorem tf_tree_1 {O S : Int32} {E : Nat → Int32} (h1 : ¬ (S &&& (O ^^^ (-1))) = 0) : ¬ tf_tree O E S = true := by
  unfold tf_tree
  rw [decide_eq_false h1, Bool.false_and]
  decide
theorem tf_tree_2 {O S : Int32} {E : Nat → Int32} (h2 : ¬ tf_sz S 12 = 6) : ¬ tf_tree O E S = true := by
  unfold tf_tree
  rw [decide_eq_false h2, Bool.false_and, Bool.and_false]
  decide
theorem tf_tree_3 {O S : Int32} {E : Nat → Int32} (h3 : ¬ tf_out E S 12 6 = 127) : ¬ tf_tree O E S = true := by
  unfold tf_tree
  rw [decide_eq_false h3, Bool.and_false, Bool.and_false]
  decide
theorem tf_tree_in {O S : Int32} {E : Nat → Int32} (h : tf_tree O E S = true) : (S &&& (O ^^^ (-1))) = 0 := by
  by_cases z : (S &&& (O ^^^ (-1))) = 0
  · exact z
  · exact absurd h (tf_tree_1 z)
theorem tf_tree_lo {c : Nat} {O S : Int32} {E A : Nat → Int32} (k : tf_ok c O A) (h : tf_tree O E S = true) : tb_lo S c := tb_lo_in k.2.1 (tf_tree_in h)
theorem tf_tree_le {c s : Nat} {O : Int32} {E A : Nat → Int32} (k : tf_ok c O A) (h : tf_tree O E (nI s) = true) : tf_f A s ≤ 240 := tf_w_240 k.2.2 (tf_tree_lo k h)
theorem tf_and {a b : Bool} (h : (a && b) = true) : a = true ∧ b = true := by
  cases a <;> cases b <;> first | exact ⟨rfl, rfl⟩ | exact absurd h (by decide)
theorem tf_g_t {O w o : Int32} {E : Nat → Int32} {s : Nat} (h : tf_g O E w o s = true) : tf_tree O E (nI s) = true := (tf_and h).1
theorem tf_h_t {O fl w o : Int32} {E A : Nat → Int32} {s : Nat} (h : tf_h O E A fl w o s = true) : tf_tree O E (nI s) = true := tf_g_t (tf_and h).1
theorem tf_g_y {O w o : Int32} {E : Nat → Int32} {s : Nat} (h : tf_tree O E (nI s) = true) (h1 : (nI s &&& w) = w) (h2 : (nI s &&& o) = 0) : tf_g O E w o s = true := by
  unfold tf_g
  rw [h, decide_eq_true h1, decide_eq_true h2]
  rfl
theorem tf_g_1 {O w o : Int32} {E : Nat → Int32} {s : Nat} (h1 : ¬ (nI s &&& w) = w) : ¬ tf_g O E w o s = true :=
  fun z => h1 (of_decide_eq_true (tf_and (tf_and z).2).1)
theorem tf_g_2 {O w o : Int32} {E : Nat → Int32} {s : Nat} (h2 : ¬ (nI s &&& o) = 0) : ¬ tf_g O E w o s = true :=
  fun z => h2 (of_decide_eq_true (tf_and (tf_and z).2).2)
theorem tf_g_0 {O w o : Int32} {E : Nat → Int32} {s : Nat} (h : ¬ tf_tree O E (nI s) = true) : ¬ tf_g O E w o s = true := fun z => h (tf_g_t z)
theorem tf_h_g {O fl w o : Int32} {E A : Nat → Int32} {s : Nat} (h : ¬ tf_g O E w o s = true) : ¬ tf_h O E A fl w o s = true := fun z => h (tf_and z).1
theorem tf_h_y {O fl w o : Int32} {E A : Nat → Int32} {s : Nat} (h : tf_g O E w o s = true) (hf : ¬ nI (tf_f A s) ≤ fl) : tf_h O E A fl w o s = true := by
  unfold tf_h
  rw [h, decide_eq_true (Int32.not_le.mp hf)]
  rfl
theorem tf_h_n {O fl w o : Int32} {E A : Nat → Int32} {s : Nat} (hf : nI (tf_f A s) ≤ fl) : ¬ tf_h O E A fl w o s = true :=
  fun z => Int32.not_lt.mpr hf (of_decide_eq_true (tf_and z).2)
theorem tf_L_le {c b : Nat} {O w o : Int32} {E A : Nat → Int32} (k : tf_ok c O A) (h : tf_L O E A w o = some b) : b ≤ 240 := by
  unfold tf_L at h
  exact tf_m_le (g := tf_g O E w o) (f := tf_f A) (fun _ z => tf_tree_le k (tf_g_t z)) 4096 b h
/-- below any cost: the floor -1 holds nothing back -/
theorem tf_h_m1 {c : Nat} {O w o : Int32} {E A : Nat → Int32} (k : tf_ok c O A) : tf_m (tf_h O E A (-1) w o) (tf_f A) 4096 = tf_L O E A w o := by
  unfold tf_L
  refine tf_m_ext (fun s => ?_) 4096
  by_cases z : tf_g O E w o s = true
  · rw [z]
    unfold tf_h
    rw [z, decide_eq_true (tf_m1_lt (tf_tree_le k (tf_g_t z)))]
    rfl
  · have z' : ¬ tf_h O E A (-1) w o s = true := tf_h_g z
    rw [Bool.not_eq_true] at z z'
    rw [z, z']
theorem tf_and0 (x : Int32) : (x &&& 0) = 0 := by
  apply b_ext
  intro i _
  rw [b_and, b_0, Bool.and_false]
/-- without an edge there is no less -/
theorem tf_L_o {O o : Int32} {E A : Nat → Int32} {d : Nat} (h : tf_L O E A 0 o = some d) : ∃ b, tf_L O E A 0 0 = some b ∧ b ≤ d := by
  unfold tf_L at h ⊢
  exact tf_m_mono (g := tf_g O E 0 o) (g' := tf_g O E 0 0) (fun _ z => tf_g_y (tf_g_t z) (tf_and0 _) (tf_and0 _)) 4096 d h
/-- no cost is above 100000 -/
theorem tf_h_no {c : Nat} {O : Int32} {E A : Nat → Int32} (k : tf_ok c O A) : tf_m (tf_h O E A 100000 0 0) (tf_f A) 4096 = none := by
  refine tf_m_none (fun s z => ?_) 4096
  have t := tf_tree_le k (tf_h_t z)
  exact tf_h_n (Int32.le_of_lt (tf_y_lt t)) z
theorem tf_c_xy {c : Nat} {O : Int32} {E A : Nat → Int32} (k : tf_ok c O A) (L : Option Nat) : tf_c O E A (tf_x L) = tf_c O E A (tf_y L) := by
  funext s
  unfold tf_c
  by_cases z : tf_tree O E (nI s) = true
  · have t := tf_tree_le k z
    cases L with
    | none => rw [decide_eq_false (show ¬ nI (tf_f A s) = tf_x none from tf_x_ne t), decide_eq_false (show ¬ nI (tf_f A s) = tf_y none from tf_y_ne t)]
    | some b => rfl
  · rw [Bool.not_eq_true] at z
    rw [z, Bool.false_and, Bool.false_and]
def tf_some : Option Nat → Option Nat → Bool
  | some a, some b => decide (a = b)
  | none, _ => false
  | some _, none => false
