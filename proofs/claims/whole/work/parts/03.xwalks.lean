/-! the class's walks against the pure pictures: each with a general post -/
section
variable {post : Int32 → Prop} {c : Nat} {C O S : Int32} {E A : Nat → Int32}
theorem sx_sz_l (h : post (tf_sz S 12)) : ∀ d e, e + d = 12 → wX_sizeOf_4 post S C O E A (d + 1) (tf_sz S e) (nI e) := by
  intro d
  induction d with
  | zero =>
    intro e he
    have e12 : e = 12 := by omega
    subst e12
    exact br_t (nI_le (a := 12) (b := 12) (by omega) (by omega)) h
  | succ d ih =>
    intro e he
    have q := ih (e + 1) (by omega)
    exact br_f (nI_ge (b := 12) (by omega) (by omega)) (nm_e (nm_r (nI_1 e) q))
theorem sx_sz (h : post (tf_sz S 12)) : wpX_sizeOf post (C, O, E, A) S := ⟨_, sx_sz_l h 12 0 rfl⟩
theorem sx_in_l {J : Int32 → Int32 → Prop} {k r : Int32} (h : J (tf_in E S r 12) (k + 1)) : ∀ d e, e + d = 12 → wX_connectsAll_13 post J S k C O E A (d + 1) (tf_in E S r e) (nI e) := by
  intro d
  induction d with
  | zero =>
    intro e he
    have e12 : e = 12 := by omega
    subst e12
    exact br_t (nI_le (a := 12) (b := 12) (by omega) (by omega)) (nm_e h)
  | succ d ih =>
    intro e he
    have q := ih (e + 1) (by omega)
    have hcl : (nI e).toNatClampNeg = e := nI_clamp (by omega)
    have hin : vp_in (nI e) 12 := vp_in_nI (by omega) (by omega)
    refine br_f (nI_ge (b := 12) (by omega) (by omega)) ?_
    by_cases hb : tb_b S e = 0
    · rw [tf_in, if_pos hb] at q
      exact br_t hb (nm_r (nI_1 e) q)
    · by_cases hr : (tf_in E S r e &&& E e) = 0
      · rw [tf_in, if_neg hb, if_pos hr] at q
        have hr' : (tf_in E S r e &&& E (nI e).toNatClampNeg) = 0 := by rw [hcl]; exact hr
        exact br_f hb ⟨hin, br_t hr' (nm_r (nI_1 e) q)⟩
      · rw [tf_in, if_neg hb, if_neg hr] at q
        have hr' : ¬ (tf_in E S r e &&& E (nI e).toNatClampNeg) = 0 := by rw [hcl]; exact hr
        have hu : (tf_in E S r e ||| E (nI e).toNatClampNeg) = tf_in E S r e ||| E e := by rw [hcl]
        exact br_f hb ⟨hin, br_f hr' ⟨hin, nm_r hu (nm_r (nI_1 e) q)⟩⟩
theorem sx_out_l (h : post (if tf_out E S 12 6 = 127 then 1 else 0)) : ∀ d j, j + d = 6 → wX_connectsAll_4 post S C O E A (d + 1) (tf_out E S 12 j) (nI j) := by
  intro d
  induction d with
  | zero =>
    intro j hj
    have j6 : j = 6 := by omega
    subst j6
    refine br_t (nI_le (a := 6) (b := 6) (by omega) (by omega)) ?_
    by_cases z : tf_out E S 12 6 = 127
    · rw [if_pos z] at h
      exact br_t z h
    · rw [if_neg z] at h
      exact br_f z h
  | succ d ih =>
    intro j hj
    have q : wX_connectsAll_4 post S C O E A (d + 1) (tf_in E S (tf_out E S 12 j) 12) (nI j + 1) := by
      rw [nI_1]
      exact ih (j + 1) (by omega)
    exact br_f (nI_ge (b := 6) (by omega) (by omega)) ⟨_, sx_in_l (post := post) (J := wX_connectsAll_4 post S C O E A (d + 1)) (r := tf_out E S 12 j) q 12 0 rfl⟩
theorem sx_con (h : post (if tf_out E S 12 6 = 127 then 1 else 0)) : wpX_connectsAll post (C, O, E, A) S := ⟨_, sx_out_l h 6 0 rfl⟩
theorem sx_tree (h : post (if tf_tree O E S = true then 1 else 0)) : wpX_isTree post (C, O, E, A) S := by
  by_cases z1 : (S &&& (O ^^^ (-1))) = 0
  · refine br_t z1 (sx_sz ?_)
    by_cases z2 : tf_sz S 12 = 6
    · refine br_t z2 (sx_con ?_)
      by_cases z3 : tf_out E S 12 6 = 127
      · rw [if_pos (tf_tree_t z1 z2 z3)] at h
        rw [if_pos z3]
        exact br_f (by decide) h
      · rw [if_neg (tf_tree_3 z3)] at h
        rw [if_neg z3]
        exact br_t rfl h
    · rw [if_neg (tf_tree_2 z2)] at h
      exact br_f z2 h
  · rw [if_neg (tf_tree_1 z1)] at h
    exact br_f z1 h
theorem sx_w_l (ha : tf_wt A c) (hs : tb_lo S c) (h : post (nI (tf_w A S 12))) : ∀ d e, e + d = 12 → wX_weightOf_4 post S C O E A (d + 1) (nI (tf_w A S e)) (nI e) := by
  intro d
  induction d with
  | zero =>
    intro e he
    have e12 : e = 12 := by omega
    subst e12
    exact br_t (nI_le (a := 12) (b := 12) (by omega) (by omega)) h
  | succ d ih =>
    intro e he
    have q := ih (e + 1) (by omega)
    have hcl : (nI e).toNatClampNeg = e := nI_clamp (by omega)
    refine br_f (nI_ge (b := 12) (by omega) (by omega)) ?_
    by_cases hb : tb_b S e = 0
    · rw [tf_w, if_pos hb] at q
      exact br_t hb (nm_r (nI_1 e) q)
    · have hu : nI (tf_w A S e) + A (nI e).toNatClampNeg = nI (tf_w A S (e + 1)) := by
        rw [hcl]
        exact tf_w_st ha hs (by omega) hb
      exact br_f hb ⟨vp_in_nI (by omega) (by omega), nm_r hu (nm_r (nI_1 e) q)⟩
theorem sx_w (ha : tf_wt A c) (hs : tb_lo S c) (h : post (nI (tf_w A S 12))) : wpX_weightOf post (C, O, E, A) S := ⟨_, sx_w_l ha hs h 12 0 rfl⟩
theorem sx_le_l {fl w o : Int32} (k : tf_ok c O A) (h : post (tf_x (tf_m (tf_h O E A fl w o) (tf_f A) 4096))) : ∀ d s, s + d = 4096 → wX_leastCostAbove_7 post fl w o C O E A (d + 1) (tf_x (tf_m (tf_h O E A fl w o) (tf_f A) s)) (nI s) := by
  intro d
  induction d with
  | zero =>
    intro s he
    have e12 : s = 4096 := by omega
    subst e12
    exact br_t (nI_le (a := 4096) (b := 4096) (by omega) (by omega)) h
  | succ d ih =>
    intro s he
    have q := ih (s + 1) (by omega)
    refine br_f (nI_ge (b := 4096) (by omega) (by omega)) ?_
    by_cases z1 : (nI s &&& w) = w
    · refine br_t z1 ?_
      by_cases z2 : (nI s &&& o) = 0
      · refine br_t z2 (br_f (by decide) (sx_tree ?_))
        by_cases zt : tf_tree O E (nI s) = true
        · rw [if_pos zt]
          have hle : tf_f A s ≤ 240 := tf_tree_le k zt
          refine br_f (by decide) (sx_w k.2.2 (tf_tree_lo k zt) ?_)
          show (nI (tf_f A s) ≤ fl → _) ∧ (¬ nI (tf_f A s) ≤ fl → _)
          by_cases zf : nI (tf_f A s) ≤ fl
          · rw [tf_m_f (tf_h_n zf)] at q
            exact br_t zf (nm_r (nI_1 s) q)
          · rw [tf_m_t (tf_h_y (tf_g_y zt z1 z2) zf)] at q
            refine br_f zf ?_
            cases hm : tf_m (tf_h O E A fl w o) (tf_f A) s with
            | none =>
              rw [hm] at q
              exact br_t rfl (nm_r (nI_1 s) q)
            | some b =>
              have hb : b ≤ 240 := tf_m_le (fun _ z => tf_tree_le k (tf_h_t z)) s b hm
              rw [hm] at q
              dsimp only at q
              refine br_f (tf_x_ne hb) ?_
              by_cases zb : tf_f A s < b
              · rw [if_pos zb] at q
                exact br_f (nI_ge zb (by omega)) (nm_r (nI_1 s) q)
              · rw [if_neg zb] at q
                exact br_t (nI_le (a := b) (b := tf_f A s) (by omega) (by omega)) (nm_r (nI_1 s) q)
        · rw [if_neg zt]
          rw [tf_m_f (tf_h_g (tf_g_0 zt))] at q
          exact br_t rfl (nm_r (nI_1 s) q)
      · rw [tf_m_f (tf_h_g (tf_g_2 z2))] at q
        exact br_f z2 (br_t rfl (nm_r (nI_1 s) q))
    · rw [tf_m_f (tf_h_g (tf_g_1 z1))] at q
      exact br_f z1 (br_t rfl (nm_r (nI_1 s) q))
theorem sx_le {fl w o : Int32} (k : tf_ok c O A) (h : post (tf_x (tf_m (tf_h O E A fl w o) (tf_f A) 4096))) : wpX_leastCostAbove post (C, O, E, A) fl w o := ⟨_, sx_le_l k h 4096 0 rfl⟩
theorem sx_le1 {w o : Int32} (k : tf_ok c O A) (h : post (tf_x (tf_L O E A w o))) : wpX_leastCostAbove post (C, O, E, A) (-1) w o := by
  refine sx_le k ?_
  rw [tf_h_m1 k]
  exact h
theorem sx_ch_l {x : Int32} (k : tf_ok c O A) (h : post (nI (tf_k (tf_c O E A x) 4096))) : ∀ d s, s + d = 4096 → wX_cheapest_12 post x C O E A (d + 1) (nI (tf_k (tf_c O E A x) s)) (nI s) := by
  intro d
  induction d with
  | zero =>
    intro s he
    have e12 : s = 4096 := by omega
    subst e12
    exact br_t (nI_le (a := 4096) (b := 4096) (by omega) (by omega)) h
  | succ d ih =>
    intro s he
    have q := ih (s + 1) (by omega)
    refine br_f (nI_ge (b := 4096) (by omega) (by omega)) (sx_tree ?_)
    by_cases zt : tf_tree O E (nI s) = true
    · rw [if_pos zt]
      refine br_f (by decide) (sx_w k.2.2 (tf_tree_lo k zt) ?_)
      show (nI (tf_f A s) = x → _) ∧ (¬ nI (tf_f A s) = x → _)
      by_cases zx : nI (tf_f A s) = x
      · have hg : tf_c O E A x s = true := by unfold tf_c; rw [zt, decide_eq_true zx]; rfl
        rw [tf_k, if_pos hg] at q
        exact br_t zx (nm_r (nI_1 _) (nm_r (nI_1 s) q))
      · have hg : ¬ tf_c O E A x s = true := fun z => zx (of_decide_eq_true (tf_and z).2)
        rw [tf_k, if_neg hg] at q
        exact br_f zx (nm_r (nI_1 s) q)
    · rw [if_neg zt]
      have hg : ¬ tf_c O E A x s = true := fun z => zt (tf_and z).1
      rw [tf_k, if_neg hg] at q
      exact br_t rfl (nm_r (nI_1 s) q)
theorem sx_tr_l (h : post (nI (tf_k (tf_t O E) 4096))) : ∀ d s, s + d = 4096 → wX_trees_4 post C O E A (d + 1) (nI (tf_k (tf_t O E) s)) (nI s) := by
  intro d
  induction d with
  | zero =>
    intro s he
    have e12 : s = 4096 := by omega
    subst e12
    exact br_t (nI_le (a := 4096) (b := 4096) (by omega) (by omega)) h
  | succ d ih =>
    intro s he
    have q := ih (s + 1) (by omega)
    refine br_f (nI_ge (b := 4096) (by omega) (by omega)) (sx_tree ?_)
    by_cases zt : tf_tree O E (nI s) = true
    · rw [if_pos zt]
      have hg : tf_t O E s = true := zt
      rw [tf_k, if_pos hg] at q
      exact br_f (by decide) (nm_r (nI_1 _) (nm_r (nI_1 s) q))
    · rw [if_neg zt]
      have hg : ¬ tf_t O E s = true := zt
      rw [tf_k, if_neg hg] at q
      exact br_t rfl (nm_r (nI_1 s) q)
theorem sx_li_l {l : Int32} (h : post (tf_li O A l 12)) : ∀ d e, e + d = 12 → wX_onEdgesUpTo_4 post l C O E A (d + 1) (tf_li O A l e) (nI e) := by
  intro d
  induction d with
  | zero =>
    intro e he
    have e12 : e = 12 := by omega
    subst e12
    exact br_t (nI_le (a := 12) (b := 12) (by omega) (by omega)) h
  | succ d ih =>
    intro e he
    have q := ih (e + 1) (by omega)
    have hcl : (nI e).toNatClampNeg = e := nI_clamp (by omega)
    refine br_f (nI_ge (b := 12) (by omega) (by omega)) ?_
    by_cases hb : tb_b O e = 0
    · rw [tf_li, if_pos hb] at q
      exact br_t hb (nm_r (nI_1 e) q)
    · refine br_f hb ⟨vp_in_nI (by omega) (by omega), ?_⟩
      by_cases hr : l < A e
      · rw [tf_li, if_neg hb, if_pos hr] at q
        have hr' : l < A (nI e).toNatClampNeg := by rw [hcl]; exact hr
        exact br_t hr' (nm_r (nI_1 e) q)
      · rw [tf_li, if_neg hb, if_neg hr] at q
        have hr' : ¬ l < A (nI e).toNatClampNeg := by rw [hcl]; exact hr
        exact br_f hr' (nm_e (nm_r (nI_1 e) q))
theorem sx_li {l : Int32} (h : post (tf_li O A l 12)) : wpX_onEdgesUpTo post (C, O, E, A) l := ⟨_, sx_li_l h 12 0 rfl⟩
end
/-- the least limit from l on, d of them -/
def tf_bo (O : Int32) (E A : Nat → Int32) : Nat → Nat → Int32
  | 0, _ => -5
  | d + 1, l => if tf_out E (tf_li O A (nI l) 12) 12 6 = 127 then nI l else tf_bo O E A d (l + 1)
section
variable {post : Int32 → Prop} {c : Nat} {C O : Int32} {E A : Nat → Int32}
theorem sx_bo_l : ∀ d l, l + d = 21 → post (tf_bo O E A d l) → wX_bottleneck_2 post C O E A (d + 1) (nI l) := by
  intro d
  induction d with
  | zero =>
    intro l hl h
    exact br_t (nI_lt (a := 20) (by omega) (by omega)) h
  | succ d ih =>
    intro l hl h
    refine br_f (nI_nlt (b := l) (a := 20) (by omega) (by omega)) (sx_li (sx_con ?_))
    rw [tf_bo] at h
    by_cases z : tf_out E (tf_li O A (nI l) 12) 12 6 = 127
    · rw [if_pos z] at h
      rw [if_pos z]
      exact br_f (by decide) h
    · rw [if_neg z] at h
      rw [if_neg z]
      exact br_t rfl (nm_r (nI_1 l) (ih (l + 1) (by omega) h))
end
