def bt (x : Int32) (i : Nat) : Bool := x.toBitVec.getLsbD i
theorem b_ext {x y : Int32} (h : ∀ i, i < 32 → bt x i = bt y i) : x = y := Int32.toBitVec_inj.mp (BitVec.eq_of_getLsbD_eq (fun i hi => h i hi))
theorem b_or (x y : Int32) (i : Nat) : bt (x ||| y) i = (bt x i || bt y i) := by unfold bt; rw [Int32.toBitVec_or, BitVec.getLsbD_or]
theorem b_and (x y : Int32) (i : Nat) : bt (x &&& y) i = (bt x i && bt y i) := by unfold bt; rw [Int32.toBitVec_and, BitVec.getLsbD_and]
theorem b_xor (x y : Int32) (i : Nat) : bt (x ^^^ y) i = (bt x i ^^ bt y i) := by unfold bt; rw [Int32.toBitVec_xor, BitVec.getLsbD_xor]
theorem b_big {x : Int32} {i : Nat} (h : 32 ≤ i) : bt x i = false := BitVec.getLsbD_of_ge _ _ h
theorem b_m1 : ∀ i, i < 32 → bt (-1) i = true := by decide +kernel
theorem b_0 (i : Nat) : bt 0 i = false := BitVec.getLsbD_zero
theorem s_l : ∀ n, n < 32 → ((nI n &&& 31).toBitVec.smod 32).toNat = n := by decide +kernel
theorem b_shl (n : Nat) (hn : n < 32) (x : Int32) {i : Nat} (hi : i < 32) : bt (x <<< (nI n &&& 31)) i = (decide (n ≤ i) && bt x (i - n)) := by
  unfold bt
  rw [Int32.toBitVec_shiftLeft]
  show (x.toBitVec <<< ((nI n &&& 31).toBitVec.smod 32).toNat).getLsbD i = _
  rw [s_l n hn, BitVec.getLsbD_shiftLeft]
  rcases Nat.lt_or_ge i n with h | h
  · simp [h, Nat.not_le.mpr h]
  · simp [hi, h, Nat.not_lt.mpr h]
theorem b_sshr (n : Nat) (hn : n < 32) (x : Int32) {i : Nat} (hi : i < 32) : bt (x >>> (nI n &&& 31)) i = if n + i < 32 then bt x (n + i) else bt x 31 := by
  unfold bt
  rw [Int32.toBitVec_shiftRight]
  show (x.toBitVec.sshiftRight ((nI n &&& 31).toBitVec.smod 32).toNat).getLsbD i = _
  rw [s_l n hn, BitVec.getLsbD_sshiftRight, BitVec.msb_eq_getLsbD_last]
  simp [hi]
/-! one bit of a set, as both texts read it -/
theorem tb_1 (i : Nat) : bt 1 i = decide (i = 0) := by
  rcases Nat.lt_or_ge i 32 with h | h
  · exact (by decide +kernel : ∀ i, i < 32 → bt 1 i = decide (i = 0)) i h
  · rw [b_big h, decide_eq_false (by omega)]
def tb_b (S : Int32) (e : Nat) : Int32 := (S >>> (nI e &&& 31)) &&& 1
theorem tb_val {e : Nat} (he : e < 32) (S : Int32) : tb_b S e = if bt S e = true then 1 else 0 := by
  apply b_ext
  intro i hi
  unfold tb_b
  rw [b_and, b_sshr e he S hi, tb_1]
  by_cases h0 : i = 0
  · subst h0
    rw [if_pos (by omega)]
    cases hb : bt S e <;> simp [hb, b_0, tb_1]
  · rw [decide_eq_false h0, Bool.and_false]
    split
    · rw [tb_1, decide_eq_false h0]
    · rw [b_0]
theorem tb_f {e : Nat} (he : e < 32) {S : Int32} (h : bt S e = false) : tb_b S e = 0 := by
  rw [tb_val he, h]; rfl
theorem tb_t {e : Nat} (he : e < 32) {S : Int32} (h : bt S e = true) : tb_b S e = 1 := by
  rw [tb_val he, h]; rfl
theorem tb_0 {e : Nat} (he : e < 32) (S : Int32) : tb_b S e = 0 ↔ bt S e = false := by
  cases hb : bt S e with
  | false => exact ⟨fun _ => rfl, fun _ => tb_f he hb⟩
  | true =>
    refine ⟨fun z => ?_, fun z => by cases z⟩
    rw [tb_t he hb] at z
    exact absurd z (by decide)
theorem tb_01 {e : Nat} (he : e < 32) (S : Int32) : tb_b S e = 1 ↔ ¬ tb_b S e = 0 := by
  cases hb : bt S e with
  | false => rw [tb_f he hb]; decide
  | true => rw [tb_t he hb]; decide
theorem tb_in {S O : Int32} {j : Nat} (h : (S &&& (O ^^^ (-1))) = 0) (hj : j < 32) (ho : bt O j = false) : bt S j = false := by
  have t : bt (S &&& (O ^^^ (-1))) j = false := by rw [h]; exact b_0 j
  rw [b_and, b_xor, b_m1 j hj, ho] at t
  simpa using t
theorem tb_sl {e i : Nat} (he : e < 32) (hi : i < 32) : bt ((1 : Int32) <<< (nI e &&& 31)) i = decide (i = e) := by
  rw [b_shl e he 1 hi, tb_1]
  by_cases h : i = e
  · subst h; simp
  · rw [decide_eq_false h]
    by_cases h2 : e ≤ i
    · rw [decide_eq_false (show ¬ i - e = 0 by omega), Bool.and_false]
    · rw [decide_eq_false h2, Bool.false_and]
theorem tb_an {e : Nat} (he : e < 32) (O : Int32) : (O &&& ((1 : Int32) <<< (nI e &&& 31))) = 0 ↔ bt O e = false := by
  constructor
  · intro h
    have t : bt (O &&& ((1 : Int32) <<< (nI e &&& 31))) e = false := by rw [h]; exact b_0 e
    rw [b_and, tb_sl he he] at t
    simpa using t
  · intro h
    apply b_ext
    intro i hi
    rw [b_and, tb_sl he hi, b_0]
    by_cases z : i = e
    · subst z; rw [h]; rfl
    · rw [decide_eq_false z, Bool.and_false]
/-- no bit from c to 11 -/
def tb_lo (O : Int32) (c : Nat) : Prop := ∀ j, c ≤ j → j < 12 → bt O j = false
theorem tb_lo0 (c : Nat) : tb_lo 0 c := fun j _ _ => b_0 j
theorem tb_lo_or {O : Int32} {c d e : Nat} (h : tb_lo O c) (hcd : c ≤ d) (he : e < d) (h12 : d ≤ 12) : tb_lo (O ||| ((1 : Int32) <<< (nI e &&& 31))) d := by
  intro j h1 h2
  rw [b_or, h j (by omega) h2, tb_sl (by omega) (by omega), decide_eq_false (by omega)]
  rfl
theorem tb_lo_cl {O : Int32} {c : Nat} (e : Nat) (h : tb_lo O c) : tb_lo (O &&& (((1 : Int32) <<< (nI e &&& 31)) ^^^ (-1))) c := by
  intro j h1 h2
  rw [b_and, h j h1 h2, Bool.false_and]
theorem tb_lo_dr {O : Int32} {c : Nat} (hc : c < 12) (h : tb_lo O (c + 1)) : tb_lo (O &&& (((1 : Int32) <<< (nI c &&& 31)) ^^^ (-1))) c := by
  intro j h1 h2
  rw [b_and]
  by_cases z : j = c
  · subst z
    rw [b_xor, tb_sl (by omega) (by omega), b_m1 j (by omega), decide_eq_true rfl]
    simp
  · rw [h j (by omega) h2, Bool.false_and]
theorem tb_lo_in {S O : Int32} {c : Nat} (ho : tb_lo O c) (h : (S &&& (O ^^^ (-1))) = 0) : tb_lo S c :=
  fun j h1 h2 => tb_in h (by omega) (ho j h1 h2)
