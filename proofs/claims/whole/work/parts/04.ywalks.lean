/-! the reference's walks against the same pictures -/
/-- the two ends of each edge, as the reference keeps them -/
def tf_E (c : Nat) (E U V : Nat → Int32) : Prop := ∀ j, j < c → E j = ((1 : Int32) <<< (U j &&& 31)) ||| ((1 : Int32) <<< (V j &&& 31))
/-- the table of the trees -/
def tf_T (O : Int32) (E T : Nat → Int32) : Prop := ∀ s, s < 4096 → T s = if tf_tree O E (nI s) = true then 1 else 0
section
variable {post : Int32 → Prop} {c : Nat} {C O K S : Int32} {E U V A T : Nat → Int32}
theorem sy_sz_l (h : post (tf_sz S 12)) : ∀ d e, e + d = 12 → wY_size_4 post S C O K U V A T (d + 1) (tf_sz S e) (nI e) := by
  intro d
  induction d with
  | zero =>
    intro e he
    have e12 : e = 12 := by omega
    subst e12
    exact br_t (nI_le (a := 12) (b := 12) (by omega) (by omega)) h
  | succ d ih =>
    intro e he
    have q := ih (e + 1) (by omega)
    exact br_f (nI_ge (b := 12) (by omega) (by omega)) (nm_e (nm_r (nI_1 e) q))
theorem sy_sz (h : post (tf_sz S 12)) : wpY_size post (C, O, K, U, V, A, T) S := ⟨_, sy_sz_l h 12 0 rfl⟩
theorem sy_in_l {J : Int32 → Int32 → Prop} {k r : Int32} (hc : c ≤ 12) (hE : tf_E c E U V) (h : J (tf_in E S r c) (k + 1)) : ∀ d e, e + d = c → wY_connects_13 post J S k (nI c) O K U V A T (d + 1) (tf_in E S r e) (nI e) := by
  intro d
  induction d with
  | zero =>
    intro e he
    have ec : e = c := by omega
    subst ec
    exact br_t (nI_le (Nat.le_refl _) (by omega)) (nm_e h)
  | succ d ih =>
    intro e he
    have q := ih (e + 1) (by omega)
    have hcl : (nI e).toNatClampNeg = e := nI_clamp (by omega)
    have hin : vp_in (nI e) 12 := vp_in_nI (by omega) (by omega)
    have hu : (((1 : Int32) <<< (U (nI e).toNatClampNeg &&& 31)) ||| ((1 : Int32) <<< (V (nI e).toNatClampNeg &&& 31))) = E e := by
      rw [hcl]
      exact (hE e (by omega)).symm
    refine br_f (nI_ge (by omega) (by omega)) ⟨hin, hin, nm_r hu ?_⟩
    by_cases hb : tb_b S e = 0
    · have h1 : ¬ tb_b S e = 1 := fun z => (tb_01 (by omega) S).mp z hb
      rw [tf_in, if_pos hb] at q
      exact br_f h1 (nm_r (nI_1 e) q)
    · have h1 : tb_b S e = 1 := (tb_01 (by omega) S).mpr hb
      refine br_t h1 ?_
      by_cases hr : (tf_in E S r e &&& E e) = 0
      · rw [tf_in, if_neg hb, if_pos hr] at q
        exact br_t hr (nm_r (nI_1 e) q)
      · rw [tf_in, if_neg hb, if_neg hr] at q
        exact br_f hr (nm_e (nm_r (nI_1 e) q))
theorem sy_out_l (hc : c ≤ 12) (hE : tf_E c E U V) (h : post (if tf_out E S c 6 = 127 then 1 else 0)) : ∀ d j, j + d = 6 → wY_connects_4 post S (nI c) O K U V A T (d + 1) (tf_out E S c j) (nI j) := by
  intro d
  induction d with
  | zero =>
    intro j hj
    have j6 : j = 6 := by omega
    subst j6
    refine br_t (nI_le (a := 6) (b := 6) (by omega) (by omega)) ?_
    by_cases z : tf_out E S c 6 = 127
    · rw [if_pos z] at h
      exact br_t z h
    · rw [if_neg z] at h
      exact br_f z h
  | succ d ih =>
    intro j hj
    have q : wY_connects_4 post S (nI c) O K U V A T (d + 1) (tf_in E S (tf_out E S c j) c) (nI j + 1) := by
      rw [nI_1]
      exact ih (j + 1) (by omega)
    exact br_f (nI_ge (b := 6) (by omega) (by omega)) ⟨_, sy_in_l (post := post) (J := wY_connects_4 post S (nI c) O K U V A T (d + 1)) (r := tf_out E S c j) hc hE q c 0 (Nat.zero_add c)⟩
theorem sy_con (hc : c ≤ 12) (hE : tf_E c E U V) (hs : tb_lo S c) (h : post (if tf_out E S 12 6 = 127 then 1 else 0)) : wpY_connects post (nI c, O, K, U, V, A, T) S := by
  rw [tf_out_c hc hs 6] at h
  exact ⟨_, sy_out_l hc hE h 6 0 rfl⟩
theorem sy_w_l (hc : c ≤ 12) (ha : tf_wt A c) (hs : tb_lo S c) (h : post (nI (tf_w A S c))) : ∀ d e, e + d = c → wY_costOf_4 post S (nI c) O K U V A T (d + 1) (nI (tf_w A S e)) (nI e) := by
  intro d
  induction d with
  | zero =>
    intro e he
    have ec : e = c := by omega
    subst ec
    exact br_t (nI_le (Nat.le_refl _) (by omega)) h
  | succ d ih =>
    intro e he
    have q := ih (e + 1) (by omega)
    have hcl : (nI e).toNatClampNeg = e := nI_clamp (by omega)
    refine br_f (nI_ge (by omega) (by omega)) ?_
    by_cases hb : tb_b S e = 0
    · have h1 : ¬ tb_b S e = 1 := fun z => (tb_01 (by omega) S).mp z hb
      rw [tf_w, if_pos hb] at q
      exact br_f h1 (nm_r (nI_1 e) q)
    · have h1 : tb_b S e = 1 := (tb_01 (by omega) S).mpr hb
      have hu : nI (tf_w A S e) + A (nI e).toNatClampNeg = nI (tf_w A S (e + 1)) := by
        rw [hcl]
        exact tf_w_st ha hs (by omega) hb
      exact br_t h1 ⟨vp_in_nI (by omega) (by omega), nm_r hu (nm_r (nI_1 e) q)⟩
theorem sy_w (k : tf_ok c O A) (hs : tb_lo S c) (h : post (nI (tf_w A S 12))) : wpY_costOf post (nI c, O, K, U, V, A, T) S := by
  rw [tf_w_12 k.1 hs] at h
  exact ⟨_, sy_w_l k.1 k.2.2 hs h c 0 (Nat.zero_add c)⟩
theorem sy_told {L : Option Nat} (h240 : ∀ b, L = some b → b ≤ 240) (h : post (tf_x L)) : wpY_told post (C, O, K, U, V, A, T) (tf_y L) := by
  cases L with
  | none => exact br_t rfl h
  | some b => exact br_f (tf_y_ne (h240 b rfl)) h
end
/-! the table -/
theorem sy_nar0 : vp_nar .boolean 0 = 0 := by rfl
theorem sy_nar1 : vp_nar .boolean 1 = 1 := by rfl
section
variable {post : SY → Prop} {c : Nat} {O K : Int32} {E U V A T : Nat → Int32}
theorem sy_wo_l (k : tf_ok c O A) (hE : tf_E c E U V) (h : ∀ T', tf_T O E T' → post (nI c, O, 1, U, V, A, T')) : ∀ d s T, s + d = 4096 → (∀ j, j < s → T j = if tf_tree O E (nI j) = true then 1 else 0) → wY_workOut_15 post (nI c) O 1 (d + 1) (nI s) U V A T := by
  intro d
  induction d with
  | zero =>
    intro s T he hT
    have e12 : s = 4096 := by omega
    subst e12
    exact br_t (nI_le (a := 4096) (b := 4096) (by omega) (by omega)) (h T hT)
  | succ d ih =>
    intro s T he hT
    have hcl : (nI s).toNatClampNeg = s := nI_clamp (by omega)
    have put : ∀ z : Int32, vp_nar .boolean z = (if tf_tree O E (nI s) = true then 1 else 0) → (vp_in (nI s) 4096 ∧ ∀ a : Nat → Int32, a = upd T (nI s).toNatClampNeg (vp_nar .boolean z) → ∀ x : Int32, x = nI s + 1 → wY_workOut_15 post (nI c) O 1 (d + 1) x U V A a) := by
      intro z hz
      refine ⟨vp_in_nI (by omega) (by omega), nm_e (nm_r (nI_1 s) (ih (s + 1) _ (by omega) ?_))⟩
      intro j hj
      rw [hcl, hz]
      unfold upd
      by_cases e : j = s
      · rw [if_pos e, e]
      · rw [if_neg e]
        exact hT j (by omega)
    refine br_f (nI_ge (b := 4096) (by omega) (by omega)) ?_
    by_cases z1 : (nI s &&& (O ^^^ (-1))) = 0
    · refine br_t z1 (sy_sz ?_)
      by_cases z2 : tf_sz (nI s) 12 = 6
      · refine br_t z2 (sy_con k.1 hE (tb_lo_in k.2.1 z1) ?_)
        by_cases z3 : tf_out E (nI s) 12 6 = 127
        · rw [if_pos z3]
          exact br_f (by decide) (put 1 (by rw [if_pos (tf_tree_t z1 z2 z3)]; exact sy_nar1))
        · rw [if_neg z3]
          exact br_t rfl (put 0 (by rw [if_neg (tf_tree_3 z3)]; exact sy_nar0))
      · exact br_f z2 (put 0 (by rw [if_neg (tf_tree_2 z2)]; exact sy_nar0))
    · exact br_f z1 (put 0 (by rw [if_neg (tf_tree_1 z1)]; exact sy_nar0))
theorem sy_wo (k : tf_ok c O A) (hE : tf_E c E U V) (hT : ¬ K = 0 → tf_T O E T) (h : ∀ K' T', ¬ K' = 0 → tf_T O E T' → post (nI c, O, K', U, V, A, T')) : wpY_workOut post (nI c, O, K, U, V, A, T) := by
  by_cases z : K = 0
  · exact br_t z ⟨_, sy_wo_l k hE (fun T' t => h 1 T' (by decide) t) 4096 0 T rfl (fun j hj => absurd hj (Nat.not_lt_zero j))⟩
  · exact br_f z (h K T z (hT z))
end
section
variable {post : Int32 → SY → Prop} {c : Nat} {O K : Int32} {E U V A T : Nat → Int32}
theorem sy_cell1 {s : Nat} (hT : tf_T O E T) (hs : s < 4096) (z : tf_tree O E (nI s) = true) : ¬ T (nI s).toNatClampNeg = 0 := by
  rw [nI_clamp (by omega), hT s hs, if_pos z]
  decide
theorem sy_cell0 {s : Nat} (hT : tf_T O E T) (hs : s < 4096) (z : ¬ tf_tree O E (nI s) = true) : T (nI s).toNatClampNeg = 0 := by
  rw [nI_clamp (by omega), hT s hs, if_neg z]
theorem sy_le_l {w o : Int32} (k : tf_ok c O A) (hT : tf_T O E T) (h : post (tf_y (tf_m (tf_g O E w o) (tf_f A) 4096)) (nI c, O, K, U, V, A, T)) : ∀ d s, s + d = 4096 → wY_least_10 post w o (nI c) O K U V A T (d + 1) (tf_y (tf_m (tf_g O E w o) (tf_f A) s)) (nI s) := by
  intro d
  induction d with
  | zero =>
    intro s he
    have e12 : s = 4096 := by omega
    subst e12
    exact br_t (nI_le (a := 4096) (b := 4096) (by omega) (by omega)) h
  | succ d ih =>
    intro s he
    have q := ih (s + 1) (by omega)
    refine br_f (nI_ge (b := 4096) (by omega) (by omega)) ⟨vp_in_nI (by omega) (by omega), ?_⟩
    by_cases zt : tf_tree O E (nI s) = true
    · refine br_f (sy_cell1 hT (by omega) zt) ?_
      by_cases z1 : (nI s &&& w) = w
      · refine br_t z1 ?_
        by_cases z2 : (nI s &&& o) = 0
        · have hle : tf_f A s ≤ 240 := tf_tree_le k zt
          refine br_t z2 (sy_w k (tf_tree_lo k zt) ?_)
          show (_ ≤ nI (tf_f A s) → _) ∧ (¬ _ ≤ nI (tf_f A s) → _)
          rw [tf_m_t (tf_g_y zt z1 z2)] at q
          cases hm : tf_m (tf_g O E w o) (tf_f A) s with
          | none =>
            rw [hm] at q
            exact br_f (nI_ge (a := tf_f A s) (b := 100000) (by omega) (by omega)) (nm_r (nI_1 s) q)
          | some b =>
            have hb : b ≤ 240 := tf_m_le (fun _ z => tf_tree_le k (tf_g_t z)) s b hm
            rw [hm] at q
            dsimp only at q
            by_cases zb : tf_f A s < b
            · rw [if_pos zb] at q
              exact br_f (nI_ge zb (by omega)) (nm_r (nI_1 s) q)
            · rw [if_neg zb] at q
              exact br_t (nI_le (a := b) (b := tf_f A s) (by omega) (by omega)) (nm_r (nI_1 s) q)
        · rw [tf_m_f (tf_g_2 z2)] at q
          exact br_f z2 (nm_r (nI_1 s) q)
      · rw [tf_m_f (tf_g_1 z1)] at q
        exact br_f z1 (nm_r (nI_1 s) q)
    · rw [tf_m_f (tf_g_0 zt)] at q
      exact br_t (sy_cell0 hT (by omega) zt) (nm_r (nI_1 s) q)
theorem sy_le {w o : Int32} (k : tf_ok c O A) (hE : tf_E c E U V) (hT : ¬ K = 0 → tf_T O E T) (h : ∀ K' T', ¬ K' = 0 → tf_T O E T' → post (tf_y (tf_L O E A w o)) (nI c, O, K', U, V, A, T')) : wpY_least post (nI c, O, K, U, V, A, T) w o := by
  unfold wpY_least
  exact sy_wo k hE hT (fun K' T' hk ht => ⟨_, sy_le_l k ht (h K' T' hk ht) 4096 0 rfl⟩)
theorem sy_ch_l {x : Int32} (k : tf_ok c O A) (hT : tf_T O E T) (h : post (nI (tf_k (tf_c O E A x) 4096)) (nI c, O, K, U, V, A, T)) : ∀ d s, s + d = 4096 → wY_cheapest_11 post x (nI c) O K U V A T (d + 1) (nI (tf_k (tf_c O E A x) s)) (nI s) := by
  intro d
  induction d with
  | zero =>
    intro s he
    have e12 : s = 4096 := by omega
    subst e12
    exact br_t (nI_le (a := 4096) (b := 4096) (by omega) (by omega)) h
  | succ d ih =>
    intro s he
    have q := ih (s + 1) (by omega)
    refine br_f (nI_ge (b := 4096) (by omega) (by omega)) ⟨vp_in_nI (by omega) (by omega), ?_⟩
    by_cases zt : tf_tree O E (nI s) = true
    · refine br_f (sy_cell1 hT (by omega) zt) (sy_w k (tf_tree_lo k zt) ?_)
      show (nI (tf_f A s) = x → _) ∧ (¬ nI (tf_f A s) = x → _)
      by_cases zx : nI (tf_f A s) = x
      · have hg : tf_c O E A x s = true := by unfold tf_c; rw [zt, decide_eq_true zx]; rfl
        rw [tf_k, if_pos hg] at q
        exact br_t zx (nm_r (nI_1 _) (nm_r (nI_1 s) q))
      · have hg : ¬ tf_c O E A x s = true := fun z => zx (of_decide_eq_true (tf_and z).2)
        rw [tf_k, if_neg hg] at q
        exact br_f zx (nm_r (nI_1 s) q)
    · have hg : ¬ tf_c O E A x s = true := fun z => zt (tf_and z).1
      rw [tf_k, if_neg hg] at q
      exact br_t (sy_cell0 hT (by omega) zt) (nm_r (nI_1 s) q)
theorem sy_tr_l (hT : tf_T O E T) (h : post (nI (tf_k (tf_t O E) 4096)) (nI c, O, K, U, V, A, T)) : ∀ d s, s + d = 4096 → wY_trees_8 post (nI c) O K U V A T (d + 1) (nI (tf_k (tf_t O E) s)) (nI s) := by
  intro d
  induction d with
  | zero =>
    intro s he
    have e12 : s = 4096 := by omega
    subst e12
    exact br_t (nI_le (a := 4096) (b := 4096) (by omega) (by omega)) h
  | succ d ih =>
    intro s he
    have q := ih (s + 1) (by omega)
    refine br_f (nI_ge (b := 4096) (by omega) (by omega)) ⟨vp_in_nI (by omega) (by omega), ?_⟩
    by_cases zt : tf_tree O E (nI s) = true
    · have hg : tf_t O E s = true := zt
      rw [tf_k, if_pos hg] at q
      exact br_f (sy_cell1 hT (by omega) zt) (nm_r (nI_1 _) (nm_r (nI_1 s) q))
    · have hg : ¬ tf_t O E s = true := zt
      rw [tf_k, if_neg hg] at q
      exact br_t (sy_cell0 hT (by omega) zt) (nm_r (nI_1 s) q)
theorem sy_nx_l {x : Int32} (k : tf_ok c O A) (hT : tf_T O E T) (h : post (tf_x (tf_m (tf_h O E A x 0 0) (tf_f A) 4096)) (nI c, O, K, U, V, A, T)) : ∀ d s, s + d = 4096 → wY_nextCost_12 post x (nI c) O K U V A T (d + 1) (tf_y (tf_m (tf_h O E A x 0 0) (tf_f A) s)) (nI s) := by
  intro d
  induction d with
  | zero =>
    intro s he
    have e12 : s = 4096 := by omega
    subst e12
    exact br_t (nI_le (a := 4096) (b := 4096) (by omega) (by omega)) (sy_told (post := fun r => post r (nI c, O, K, U, V, A, T)) (fun b hb => tf_m_le (fun _ z => tf_tree_le k (tf_h_t z)) 4096 b hb) h)
  | succ d ih =>
    intro s he
    have q := ih (s + 1) (by omega)
    refine br_f (nI_ge (b := 4096) (by omega) (by omega)) ⟨vp_in_nI (by omega) (by omega), ?_⟩
    by_cases zt : tf_tree O E (nI s) = true
    · have hle : tf_f A s ≤ 240 := tf_tree_le k zt
      refine br_f (sy_cell1 hT (by omega) zt) (sy_w k (tf_tree_lo k zt) ?_)
      show (nI (tf_f A s) ≤ x → _) ∧ (¬ nI (tf_f A s) ≤ x → _)
      by_cases zf : nI (tf_f A s) ≤ x
      · rw [tf_m_f (tf_h_n zf)] at q
        exact br_t zf (nm_r (nI_1 s) q)
      · rw [tf_m_t (tf_h_y (tf_g_y zt (tf_and0 _) (tf_and0 _)) zf)] at q
        refine br_f zf ?_
        cases hm : tf_m (tf_h O E A x 0 0) (tf_f A) s with
        | none =>
          rw [hm] at q
          exact br_f (nI_ge (a := tf_f A s) (b := 100000) (by omega) (by omega)) (nm_r (nI_1 s) q)
        | some b =>
          have hb : b ≤ 240 := tf_m_le (fun _ z => tf_tree_le k (tf_h_t z)) s b hm
          rw [hm] at q
          dsimp only at q
          by_cases zb : tf_f A s < b
          · rw [if_pos zb] at q
            exact br_f (nI_ge zb (by omega)) (nm_r (nI_1 s) q)
          · rw [if_neg zb] at q
            exact br_t (nI_le (a := b) (b := tf_f A s) (by omega) (by omega)) (nm_r (nI_1 s) q)
    · rw [tf_m_f (tf_h_g (tf_g_0 zt))] at q
      exact br_t (sy_cell0 hT (by omega) zt) (nm_r (nI_1 s) q)
end
section
variable {post : Int32 → Prop} {c : Nat} {O K : Int32} {E U V A T : Nat → Int32}
theorem sy_li_l {J : Int32 → Prop} {l : Int32} (hc : c ≤ 12) (h : wpY_connects (fun r => (r = 0 → ∀ y : Int32, y = l + 1 → J y) ∧ (¬ r = 0 → post l)) (nI c, O, K, U, V, A, T) (tf_li O A l c)) : ∀ d e, e + d = c → wY_bottleneck_12 post J l (nI c) O K U V A T (d + 1) (tf_li O A l e) (nI e) := by
  intro d
  induction d with
  | zero =>
    intro e he
    have ec : e = c := by omega
    subst ec
    exact br_t (nI_le (Nat.le_refl _) (by omega)) h
  | succ d ih =>
    intro e he
    have q := ih (e + 1) (by omega)
    have hcl : (nI e).toNatClampNeg = e := nI_clamp (by omega)
    refine br_f (nI_ge (by omega) (by omega)) ?_
    by_cases hb : tb_b O e = 0
    · have h1 : ¬ tb_b O e = 1 := fun z => (tb_01 (by omega) O).mp z hb
      rw [tf_li, if_pos hb] at q
      exact br_f h1 (nm_r (nI_1 e) q)
    · have h1 : tb_b O e = 1 := (tb_01 (by omega) O).mpr hb
      refine br_t h1 ⟨vp_in_nI (by omega) (by omega), ?_⟩
      by_cases hr : l < A e
      · rw [tf_li, if_neg hb, if_pos hr] at q
        have hr' : l < A (nI e).toNatClampNeg := by rw [hcl]; exact hr
        exact br_t hr' (nm_r (nI_1 e) q)
      · rw [tf_li, if_neg hb, if_neg hr] at q
        have hr' : ¬ l < A (nI e).toNatClampNeg := by rw [hcl]; exact hr
        exact br_f hr' (nm_e (nm_r (nI_1 e) q))
theorem sy_bo_l (k : tf_ok c O A) (hE : tf_E c E U V) : ∀ d l, l + d = 21 → post (tf_bo O E A d l) → wY_bottleneck_2 post (nI c) O K U V A T (d + 1) (nI l) := by
  intro d
  induction d with
  | zero =>
    intro l hl h
    exact br_t (nI_le (a := 21) (by omega) (by omega)) h
  | succ d ih =>
    intro l hl h
    refine br_f (nI_ge (b := 21) (by omega) (by omega)) ⟨_, sy_li_l (J := wY_bottleneck_2 post (nI c) O K U V A T (d + 1)) (l := nI l) k.1 ?_ c 0 (Nat.zero_add c)⟩
    have hlo : tb_lo (tf_li O A (nI l) c) c := fun j h1 h2 => tf_li_hi c k.1 j h1 h2
    refine sy_con k.1 hE hlo ?_
    rw [← tf_li_12 k.1 k.2.1]
    rw [tf_bo] at h
    by_cases z : tf_out E (tf_li O A (nI l) 12) 12 6 = 127
    · rw [if_pos z] at h
      rw [if_pos z]
      exact br_f (by decide) h
    · rw [if_neg z] at h
      rw [if_neg z]
      exact br_t rfl (nm_r (nI_1 l) (ih (l + 1) (by omega) h))
end
