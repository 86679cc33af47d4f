/-! the calls that only ask -/
theorem sr_le {c : Nat} {O w o : Int32} {E A : Nat → Int32} (k : tf_ok c O A) : ∀ b, tf_L O E A w o = some b → b ≤ 240 := fun _ h => tf_L_le k h
theorem i_vc_cost {k : Nat} {u : SX} {v : SY} (I : i_Rel k u v) (hk : k + 4 ≤ 2048) : wpX_cost (fun r => wpY_cost (fun r' v' => r' = r ∧ i_Rel (k + 4) u v') v) u := by
  obtain ⟨c, O, K, E, U, V, A, T, rfl, rfl, hok, hE, hT⟩ := I
  unfold wpX_cost wpY_cost
  dsimp only
  refine sx_le1 hok (sy_le hok hE hT (fun K' T' hk' ht => ?_))
  exact sy_told (sr_le hok) ⟨rfl, sr_mk hok hE (fun _ => ht)⟩
theorem i_vc_cheapest {k : Nat} {u : SX} {v : SY} (I : i_Rel k u v) (hk : k + 4 ≤ 2048) : wpX_cheapest (fun r => wpY_cheapest (fun r' v' => r' = r ∧ i_Rel (k + 4) u v') v) u := by
  obtain ⟨c, O, K, E, U, V, A, T, rfl, rfl, hok, hE, hT⟩ := I
  unfold wpX_cheapest wpY_cheapest
  dsimp only
  refine sx_le1 hok ⟨_, sx_ch_l hok ?_ 4096 0 rfl⟩
  refine sy_le hok hE hT (fun K' T' hk' ht => ⟨_, sy_ch_l hok ht ?_ 4096 0 rfl⟩)
  rw [tf_c_xy hok]
  exact ⟨rfl, sr_mk hok hE (fun _ => ht)⟩
theorem i_vc_trees {k : Nat} {u : SX} {v : SY} (I : i_Rel k u v) (hk : k + 4 ≤ 2048) : wpX_trees (fun r => wpY_trees (fun r' v' => r' = r ∧ i_Rel (k + 4) u v') v) u := by
  obtain ⟨c, O, K, E, U, V, A, T, rfl, rfl, hok, hE, hT⟩ := I
  unfold wpX_trees wpY_trees
  dsimp only
  refine ⟨_, sx_tr_l ?_ 4096 0 rfl⟩
  exact sy_wo hok hE hT (fun K' T' hk' ht => ⟨_, sy_tr_l ht ⟨rfl, sr_mk hok hE (fun _ => ht)⟩ 4096 0 rfl⟩)
theorem i_vc_costWith {k : Nat} {u : SX} {v : SY} (I : i_Rel k u v) (hk : k + 4 ≤ 2048) (v1 : Int32) : wpX_costWith (fun r => wpY_costWith (fun r' v' => r' = r ∧ i_Rel (k + 4) u v') v v1) u v1 := by
  obtain ⟨c, O, K, E, U, V, A, T, rfl, rfl, hok, hE, hT⟩ := I
  unfold wpX_costWith wpY_costWith
  dsimp only
  rcases sr_ix v1 c with hb | ⟨j, hj, rfl⟩
  · exact sx_exB hb (br_t rfl (sy_badB hb (br_f (by decide) ⟨rfl, sr_mk hok hE hT⟩)))
  · refine sx_exG hok.1 hj (br_f (by decide) (sx_le1 hok (sy_badG hok.1 hj (br_t rfl (sy_le hok hE hT (fun K' T' hk' ht => ?_))))))
    exact sy_told (sr_le hok) ⟨rfl, sr_mk hok hE (fun _ => ht)⟩
theorem i_vc_costWithout {k : Nat} {u : SX} {v : SY} (I : i_Rel k u v) (hk : k + 4 ≤ 2048) (v1 : Int32) : wpX_costWithout (fun r => wpY_costWithout (fun r' v' => r' = r ∧ i_Rel (k + 4) u v') v v1) u v1 := by
  obtain ⟨c, O, K, E, U, V, A, T, rfl, rfl, hok, hE, hT⟩ := I
  unfold wpX_costWithout wpY_costWithout
  dsimp only
  rcases sr_ix v1 c with hb | ⟨j, hj, rfl⟩
  · exact sx_exB hb (br_t rfl (sy_badB hb (br_f (by decide) ⟨rfl, sr_mk hok hE hT⟩)))
  · refine sx_exG hok.1 hj (br_f (by decide) (sx_le1 hok (sy_badG hok.1 hj (br_t rfl (sy_le hok hE hT (fun K' T' hk' ht => ?_))))))
    exact sy_told (sr_le hok) ⟨rfl, sr_mk hok hE (fun _ => ht)⟩
/-! some cheapest tree has the edge -/
theorem sx_isc {post : Int32 → Prop} {c : Nat} {C O p : Int32} {E A : Nat → Int32} (k : tf_ok c O A) (h : post (if tf_some (tf_L O E A ((1 : Int32) <<< (p &&& 31)) 0) (tf_L O E A 0 0) = true then 1 else 0)) : wpX_isInSomeCheapest post (C, O, E, A) p := by
  unfold wpX_isInSomeCheapest
  dsimp only
  refine sx_le1 k (sx_le1 k ?_)
  have hw := sr_le (E := E) (w := (1 : Int32) <<< (p &&& 31)) (o := 0) k
  have hl := sr_le (E := E) (w := 0) (o := 0) k
  revert h hw hl
  generalize tf_L O E A ((1 : Int32) <<< (p &&& 31)) 0 = Lw
  generalize tf_L O E A 0 0 = L
  intro h hw hl
  cases Lw with
  | none => exact br_t rfl h
  | some a =>
    have ha := hw a rfl
    refine br_f (tf_x_ne ha) ?_
    cases L with
    | none => exact br_f (tf_x_ne ha) h
    | some b =>
      have hb := hl b rfl
      by_cases z : a = b
      · have t : tf_some (some a) (some b) = true := decide_eq_true z
        rw [if_pos t] at h
        exact br_t (congrArg nI z) h
      · have t : ¬ tf_some (some a) (some b) = true := fun y => z (of_decide_eq_true y)
        rw [if_neg t] at h
        exact br_f (fun y => z ((nI_eq (by omega) (by omega)).mp y)) h
theorem sy_isc {post : Int32 → SY → Prop} {c j : Nat} {O K : Int32} {E U V A T : Nat → Int32} (k : tf_ok c O A) (hE : tf_E c E U V) (hT : ¬ K = 0 → tf_T O E T) (hj : j < c) (h : ∀ K' T', ¬ K' = 0 → tf_T O E T' → post (if tf_some (tf_L O E A ((1 : Int32) <<< (nI j &&& 31)) 0) (tf_L O E A 0 0) = true then 1 else 0) (nI c, O, K', U, V, A, T')) : wpY_inSome post (nI c, O, K, U, V, A, T) (nI j) := by
  unfold wpY_inSome
  dsimp only
  refine sy_badG k.1 hj (br_t rfl (sy_le k hE hT (fun K' T' hk' ht => ?_)))
  dsimp only
  have hw := sr_le (E := E) (w := (1 : Int32) <<< (nI j &&& 31)) (o := 0) k
  have hl := sr_le (E := E) (w := 0) (o := 0) k
  cases hL : tf_L O E A 0 0 with
  | none =>
    have t : ¬ tf_some (tf_L O E A ((1 : Int32) <<< (nI j &&& 31)) 0) none = true := by
      cases tf_L O E A ((1 : Int32) <<< (nI j &&& 31)) 0 <;> exact fun y => Bool.noConfusion y
    have h' := h K' T' hk' ht
    rw [hL, if_neg t] at h'
    exact br_t (nI_le (a := 100000) (b := 100000) (by omega) (by omega)) h'
  | some b =>
    have hb := hl b hL
    refine br_f (nI_ge (b := 100000) (by omega) (by omega)) (sy_le k hE (fun _ => ht) (fun K1 T1 hk1 ht1 => ?_))
    dsimp only
    have h' := h K1 T1 hk1 ht1
    rw [hL] at h'
    cases hW : tf_L O E A ((1 : Int32) <<< (nI j &&& 31)) 0 with
    | none =>
      rw [hW] at h'
      exact br_f (fun y => tf_y_ne hb y.symm) h'
    | some a =>
      have ha := hw a hW
      rw [hW] at h'
      by_cases z : a = b
      · have t : tf_some (some a) (some b) = true := decide_eq_true z
        rw [if_pos t] at h'
        exact br_t (congrArg nI z) h'
      · have t : ¬ tf_some (some a) (some b) = true := fun y => z (of_decide_eq_true y)
        rw [if_neg t] at h'
        exact br_f (fun y => z ((nI_eq (by omega) (by omega)).mp y)) h'
theorem i_vc_inSome {k : Nat} {u : SX} {v : SY} (I : i_Rel k u v) (hk : k + 4 ≤ 2048) (v1 : Int32) : wpX_inSome (fun r => wpY_inSome (fun r' v' => r' = r ∧ i_Rel (k + 4) u v') v v1) u v1 := by
  obtain ⟨c, O, K, E, U, V, A, T, rfl, rfl, hok, hE, hT⟩ := I
  unfold wpX_inSome
  dsimp only
  rcases sr_ix v1 c with hb | ⟨j, hj, rfl⟩
  · unfold wpY_inSome
    dsimp only
    exact sx_exB hb (br_t rfl (sy_badB hb (br_f (by decide) ⟨rfl, sr_mk hok hE hT⟩)))
  · refine sx_exG hok.1 hj (br_f (by decide) (sx_isc hok ?_))
    by_cases z : tf_some (tf_L O E A ((1 : Int32) <<< (nI j &&& 31)) 0) (tf_L O E A 0 0) = true
    · rw [if_pos z]
      refine br_f (by decide) (sy_isc hok hE hT hj (fun K' T' hk' ht => ?_))
      rw [if_pos z]
      exact ⟨rfl, sr_mk hok hE (fun _ => ht)⟩
    · rw [if_neg z]
      refine br_t rfl (sy_isc hok hE hT hj (fun K' T' hk' ht => ?_))
      rw [if_neg z]
      exact ⟨rfl, sr_mk hok hE (fun _ => ht)⟩
theorem i_vc_inAll {k : Nat} {u : SX} {v : SY} (I : i_Rel k u v) (hk : k + 4 ≤ 2048) (v1 : Int32) : wpX_inAll (fun r => wpY_inAll (fun r' v' => r' = r ∧ i_Rel (k + 4) u v') v v1) u v1 := by
  obtain ⟨c, O, K, E, U, V, A, T, rfl, rfl, hok, hE, hT⟩ := I
  unfold wpX_inAll wpY_inAll
  dsimp only
  rcases sr_ix v1 c with hb | ⟨j, hj, rfl⟩
  · exact sx_exB hb (br_t rfl (sy_badB hb (br_f (by decide) ⟨rfl, sr_mk hok hE hT⟩)))
  · refine sx_exG hok.1 hj (br_f (by decide) (sx_le1 hok (sx_le1 hok ?_)))
    have hl := sr_le (E := E) (w := 0) (o := 0) hok
    have hn := sr_le (E := E) (w := 0) (o := (1 : Int32) <<< (nI j &&& 31)) hok
    cases hL : tf_L O E A 0 0 with
    | none =>
      refine br_t rfl (sy_badG hok.1 hj (br_t rfl (sy_le hok hE hT (fun K' T' hk' ht => ?_))))
      rw [hL]
      exact br_t (nI_le (a := 100000) (b := 100000) (by omega) (by omega)) ⟨rfl, sr_mk hok hE (fun _ => ht)⟩
    | some b =>
      have hb := hl b hL
      refine br_f (tf_x_ne hb) ?_
      cases hN : tf_L O E A 0 ((1 : Int32) <<< (nI j &&& 31)) with
      | none =>
        refine br_f (fun y => tf_x_ne hb y.symm) (sy_badG hok.1 hj (br_t rfl (sy_le hok hE hT (fun K' T' hk' ht => ?_))))
        rw [hL]
        refine br_f (nI_ge (b := 100000) (by omega) (by omega)) (sy_le hok hE (fun _ => ht) (fun K1 T1 hk1 ht1 => ?_))
        rw [hN]
        exact br_f (nI_ge (b := 100000) (by omega) (by omega)) ⟨rfl, sr_mk hok hE (fun _ => ht1)⟩
      | some d =>
        have hd := hn d hN
        obtain ⟨b', e1, l1⟩ := tf_L_o hN
        rw [hL] at e1
        cases e1
        by_cases z : d = b
        · refine br_t (congrArg nI z) (sy_badG hok.1 hj (br_t rfl (sy_le hok hE hT (fun K' T' hk' ht => ?_))))
          rw [hL]
          refine br_f (nI_ge (b := 100000) (by omega) (by omega)) (sy_le hok hE (fun _ => ht) (fun K1 T1 hk1 ht1 => ?_))
          rw [hN]
          exact br_t (nI_le (by omega) (by omega)) ⟨rfl, sr_mk hok hE (fun _ => ht1)⟩
        · refine br_f (fun y => z ((nI_eq (by omega) (by omega)).mp y)) (sy_badG hok.1 hj (br_t rfl (sy_le hok hE hT (fun K' T' hk' ht => ?_))))
          rw [hL]
          refine br_f (nI_ge (b := 100000) (by omega) (by omega)) (sy_le hok hE (fun _ => ht) (fun K1 T1 hk1 ht1 => ?_))
          rw [hN]
          exact br_f (nI_ge (by omega) (by omega)) ⟨rfl, sr_mk hok hE (fun _ => ht1)⟩
theorem sr_some {Lw L : Option Nat} (h : tf_some Lw L = true) : ∃ a, Lw = some a ∧ L = some a := by
  cases Lw with
  | none => exact Bool.noConfusion h
  | some a =>
    cases L with
    | none => exact Bool.noConfusion h
    | some b => exact ⟨a, rfl, congrArg some (of_decide_eq_true h).symm⟩
theorem i_vc_slack {k : Nat} {u : SX} {v : SY} (I : i_Rel k u v) (hk : k + 4 ≤ 2048) (v1 : Int32) : wpX_slack (fun r => wpY_slack (fun r' v' => r' = r ∧ i_Rel (k + 4) u v') v v1) u v1 := by
  obtain ⟨c, O, K, E, U, V, A, T, rfl, rfl, hok, hE, hT⟩ := I
  unfold wpX_slack wpY_slack
  dsimp only
  rcases sr_ix v1 c with hb | ⟨j, hj, rfl⟩
  · exact sx_exB hb (br_t rfl (sy_badB hb (br_f (by decide) ⟨rfl, sr_mk hok hE hT⟩)))
  · refine sx_exG hok.1 hj (br_f (by decide) (sx_isc hok ?_))
    by_cases z : tf_some (tf_L O E A ((1 : Int32) <<< (nI j &&& 31)) 0) (tf_L O E A 0 0) = true
    · rw [if_pos z]
      obtain ⟨a, eW, eL⟩ := sr_some z
      have hn := sr_le (E := E) (w := 0) (o := (1 : Int32) <<< (nI j &&& 31)) hok
      refine br_f (by decide) (sx_le1 hok ?_)
      cases hN : tf_L O E A 0 ((1 : Int32) <<< (nI j &&& 31)) with
      | none =>
        refine br_t rfl (sy_badG hok.1 hj (br_t rfl (sy_isc hok hE hT hj (fun K' T' hk' ht => ?_))))
        rw [if_pos z]
        refine br_f (by decide) (sy_le hok hE (fun _ => ht) (fun K1 T1 hk1 ht1 => sy_le hok hE (fun _ => ht1) (fun K2 T2 hk2 ht2 => ?_)))
        rw [hN]
        exact br_t rfl ⟨rfl, sr_mk hok hE (fun _ => ht2)⟩
      | some d =>
        have hd := hn d hN
        refine br_f (tf_x_ne hd) (sx_le1 hok ?_)
        refine sy_badG hok.1 hj (br_t rfl (sy_isc hok hE hT hj (fun K' T' hk' ht => ?_)))
        rw [if_pos z]
        refine br_f (by decide) (sy_le hok hE (fun _ => ht) (fun K1 T1 hk1 ht1 => sy_le hok hE (fun _ => ht1) (fun K2 T2 hk2 ht2 => ?_)))
        rw [hN, eL, eW]
        exact br_f (tf_y_ne hd) ⟨rfl, sr_mk hok hE (fun _ => ht2)⟩
    · rw [if_neg z]
      refine br_t rfl (sy_badG hok.1 hj (br_t rfl (sy_isc hok hE hT hj (fun K' T' hk' ht => ?_))))
      rw [if_neg z]
      exact br_t rfl ⟨rfl, sr_mk hok hE (fun _ => ht)⟩
theorem i_vc_nextCost {k : Nat} {u : SX} {v : SY} (I : i_Rel k u v) (hk : k + 4 ≤ 2048) : wpX_nextCost (fun r => wpY_nextCost (fun r' v' => r' = r ∧ i_Rel (k + 4) u v') v) u := by
  obtain ⟨c, O, K, E, U, V, A, T, rfl, rfl, hok, hE, hT⟩ := I
  unfold wpX_nextCost wpY_nextCost
  dsimp only
  refine sx_le1 hok ?_
  cases hL : tf_L O E A 0 0 with
  | none =>
    refine br_t rfl (sy_le hok hE hT (fun K' T' hk' ht => ?_))
    rw [hL]
    refine ⟨_, sy_nx_l (x := 100000) hok ht ?_ 4096 0 rfl⟩
    rw [tf_h_no hok]
    exact ⟨rfl, sr_mk hok hE (fun _ => ht)⟩
  | some b =>
    have hb := tf_L_le hok hL
    refine br_f (tf_x_ne hb) (sx_le hok (sy_le hok hE hT (fun K' T' hk' ht => ?_)))
    rw [hL]
    exact ⟨_, sy_nx_l (x := nI b) hok ht ⟨rfl, sr_mk hok hE (fun _ => ht)⟩ 4096 0 rfl⟩
theorem i_vc_bottleneck {k : Nat} {u : SX} {v : SY} (I : i_Rel k u v) (hk : k + 4 ≤ 2048) : wpX_bottleneck (fun r => wpY_bottleneck (fun r' => r' = r ∧ i_Rel (k + 4) u v) v) u := by
  obtain ⟨c, O, K, E, U, V, A, T, rfl, rfl, hok, hE, hT⟩ := I
  unfold wpX_bottleneck wpY_bottleneck
  dsimp only
  exact ⟨_, sx_bo_l 21 0 rfl ⟨_, sy_bo_l hok hE 21 0 rfl ⟨rfl, sr_mk hok hE hT⟩⟩⟩
