/-! the relation, and the calls that change something -/
/-- one count, one set of edges that are on, one array of weights; the ends of an edge as one set or as two numbers; the table, once known, is that of the trees -/
def i_Rel (k : Nat) (u : SX) (v : SY) : Prop := ∃ (c : Nat) (O K : Int32) (E U V A T : Nat → Int32), u = (nI c, O, E, A) ∧ v = (nI c, O, K, U, V, A, T) ∧ tf_ok c O A ∧ tf_E c E U V ∧ (¬ K = 0 → tf_T O E T)
theorem i_up {k : Nat} {u : SX} {v : SY} (h : i_Rel k u v) : i_Rel (k + 4) u v := h
theorem i_vc0 : wpX_init (fun u => wpY_init (fun v => i_Rel 0 u v)) :=
  ⟨0, 0, 0, fun _ => 0, fun _ => 0, fun _ => 0, fun _ => 0, fun _ => 0, rfl, rfl, ⟨by omega, tb_lo0 0, fun j hj => absurd hj (Nat.not_lt_zero j)⟩, fun j hj => absurd hj (Nat.not_lt_zero j), fun z => absurd rfl z⟩
theorem sr_mk {k c : Nat} {O K : Int32} {E U V A T : Nat → Int32} (h1 : tf_ok c O A) (h2 : tf_E c E U V) (h3 : ¬ K = 0 → tf_T O E T) : i_Rel k (nI c, O, E, A) (nI c, O, K, U, V, A, T) :=
  ⟨c, O, K, E, U, V, A, T, rfl, rfl, h1, h2, h3⟩
theorem sr_ix (p : Int32) (c : Nat) : (p < 0 ∨ nI c ≤ p) ∨ ∃ j, j < c ∧ p = nI j := by
  by_cases h0 : p < 0
  · exact Or.inl (Or.inl h0)
  · obtain ⟨j, hj, rfl⟩ := nI_of h0
    rcases Nat.lt_or_ge j c with h | h
    · exact Or.inr ⟨j, h, rfl⟩
    · exact Or.inl (Or.inr (nI_le h hj))
theorem sr_76 (p : Int32) : (7 : Int32) ≤ p ↔ (6 : Int32) < p := by
  rw [Int32.le_iff_toInt_le, Int32.lt_iff_toInt_lt]
  have e7 : (7 : Int32).toInt = 7 := by decide
  have e6 : (6 : Int32).toInt = 6 := by decide
  omega
section
variable {post : Int32 → Prop} {c j : Nat} {C O K p : Int32} {E U V A T : Nat → Int32}
theorem sx_vB (h : p < 0 ∨ 6 < p) (hp : post 0) : wpX_isVertex post (C, O, E, A) p := by
  by_cases z : p < 0
  · exact br_t z hp
  · exact br_f z (br_t ((sr_76 p).mpr (h.resolve_left z)) hp)
theorem sx_vG (h : ¬ (p < 0 ∨ 6 < p)) (hp : post 1) : wpX_isVertex post (C, O, E, A) p :=
  br_f (fun z => h (Or.inl z)) (br_f (fun z => h (Or.inr ((sr_76 p).mp z))) hp)
theorem sx_wB (h : p < 0 ∨ 20 < p) (hp : post 0) : wpX_isWeight post (C, O, E, A) p := by
  by_cases z : p < 0
  · exact br_t z hp
  · exact br_f z (br_t (h.resolve_left z) hp)
theorem sx_wG (h : ¬ (p < 0 ∨ 20 < p)) (hp : post 1) : wpX_isWeight post (C, O, E, A) p :=
  br_f (fun z => h (Or.inl z)) (br_f (fun z => h (Or.inr z)) hp)
theorem sx_exB (h : p < 0 ∨ C ≤ p) (hp : post 0) : wpX_exists post (C, O, E, A) p := by
  by_cases z : p < 0
  · exact br_t z hp
  · exact br_f z (br_t (h.resolve_left z) hp)
theorem sx_exG (hc : c ≤ 12) (hj : j < c) (hp : post 1) : wpX_exists post (nI c, O, E, A) (nI j) :=
  br_f (nI_pos (by omega)) (br_f (nI_ge hj (by omega)) hp)
theorem sy_badB (h : p < 0 ∨ C ≤ p) (hp : post 1) : wpY_bad post (C, O, K, U, V, A, T) p := by
  by_cases z : p < 0
  · exact br_t z hp
  · exact br_f z (br_f (Int32.not_lt.mpr (h.resolve_left z)) hp)
theorem sy_badG (hc : c ≤ 12) (hj : j < c) (hp : post 0) : wpY_bad post (nI c, O, K, U, V, A, T) (nI j) :=
  br_f (nI_pos (by omega)) (br_t (nI_lt hj (by omega)) hp)
end
theorem sr_wt {A : Nat → Int32} {c j : Nat} {x : Int32} (h : tf_wt A c) (hx : ¬ (x < 0 ∨ 20 < x)) : tf_wt (upd A j x) c := by
  intro i hi
  unfold upd
  by_cases z : i = j
  · rw [if_pos z]
    exact nI_of2 (M := 20) (n := 20) (by decide) (fun y => hx (Or.inl y)) (Int32.not_lt.mp fun y => hx (Or.inr y))
  · rw [if_neg z]
    exact h i hi
theorem sr_wt1 {A : Nat → Int32} {c : Nat} {x : Int32} (h : tf_wt A c) (hx : ¬ (x < 0 ∨ 20 < x)) : tf_wt (upd A c x) (c + 1) := by
  intro i hi
  unfold upd
  by_cases z : i = c
  · rw [if_pos z]
    exact nI_of2 (M := 20) (n := 20) (by decide) (fun y => hx (Or.inl y)) (Int32.not_lt.mp fun y => hx (Or.inr y))
  · rw [if_neg z]
    exact h i (by omega)
theorem sr_E1 {E U V : Nat → Int32} {c : Nat} {a b : Int32} (h : tf_E c E U V) : tf_E (c + 1) (upd E c (((1 : Int32) <<< (a &&& 31)) ||| ((1 : Int32) <<< (b &&& 31)))) (upd U c a) (upd V c b) := by
  intro i hi
  unfold upd
  by_cases z : i = c
  · rw [if_pos z, if_pos z, if_pos z]
  · rw [if_neg z, if_neg z, if_neg z]
    exact h i (by omega)
/-! edge -/
section
variable {post : Int32 → SY → Prop} {c : Nat} {C O K v1 v2 v3 : Int32} {U V A T : Nat → Int32}
theorem sy_ed2 (h : v1 < 0 ∨ 6 < v1 ∨ v2 < 0 ∨ 6 < v2 ∨ v1 = v2) (hp : post (-2) (C, O, K, U, V, A, T)) : wpY_edge post (C, O, K, U, V, A, T) v1 v2 v3 := by
  by_cases a1 : v1 < 0
  · exact br_t a1 hp
  · refine br_f a1 ?_
    by_cases a2 : 6 < v1
    · exact br_t a2 hp
    · refine br_f a2 ?_
      by_cases a3 : v2 < 0
      · exact br_t a3 hp
      · refine br_f a3 ?_
        by_cases a4 : 6 < v2
        · exact br_t a4 hp
        · exact br_f a4 (br_t ((((h.resolve_left a1).resolve_left a2).resolve_left a3).resolve_left a4) hp)
theorem sy_ed3 (h : ¬ (v1 < 0 ∨ 6 < v1 ∨ v2 < 0 ∨ 6 < v2 ∨ v1 = v2)) (hw : v3 < 0 ∨ 20 < v3) (hp : post (-3) (C, O, K, U, V, A, T)) : wpY_edge post (C, O, K, U, V, A, T) v1 v2 v3 := by
  refine br_f (fun z => h (Or.inl z)) (br_f (fun z => h (Or.inr (Or.inl z))) (br_f (fun z => h (Or.inr (Or.inr (Or.inl z)))) (br_f (fun z => h (Or.inr (Or.inr (Or.inr (Or.inl z))))) (br_f (fun z => h (Or.inr (Or.inr (Or.inr (Or.inr z))))) ?_))))
  by_cases b1 : v3 < 0
  · exact br_t b1 hp
  · exact br_f b1 (br_f (Int32.not_le.mpr (hw.resolve_left b1)) hp)
theorem sy_ed4 (h : ¬ (v1 < 0 ∨ 6 < v1 ∨ v2 < 0 ∨ 6 < v2 ∨ v1 = v2)) (hw : ¬ (v3 < 0 ∨ 20 < v3)) (hC : C = 12) (hp : post (-4) (C, O, K, U, V, A, T)) : wpY_edge post (C, O, K, U, V, A, T) v1 v2 v3 :=
  br_f (fun z => h (Or.inl z)) (br_f (fun z => h (Or.inr (Or.inl z))) (br_f (fun z => h (Or.inr (Or.inr (Or.inl z)))) (br_f (fun z => h (Or.inr (Or.inr (Or.inr (Or.inl z))))) (br_f (fun z => h (Or.inr (Or.inr (Or.inr (Or.inr z))))) (br_f (fun z => hw (Or.inl z)) (br_t (Int32.not_lt.mp fun z => hw (Or.inr z)) (br_t hC hp)))))))
theorem sy_ed5 (h : ¬ (v1 < 0 ∨ 6 < v1 ∨ v2 < 0 ∨ 6 < v2 ∨ v1 = v2)) (hw : ¬ (v3 < 0 ∨ 20 < v3)) (hc : c < 12) (hp : post (nI c) (nI (c + 1), O ||| ((1 : Int32) <<< (nI c &&& 31)), 0, upd U c v1, upd V c v2, upd A c v3, T)) : wpY_edge post (nI c, O, K, U, V, A, T) v1 v2 v3 := by
  have hcl : (nI c).toNatClampNeg = c := nI_clamp (by omega)
  have hin : vp_in (nI c) 12 := vp_in_nI hc (by omega)
  have hne : ¬ nI c = 12 := fun z => by
    have t : nI c = nI 12 := z
    rw [nI_eq (by omega) (by omega)] at t
    omega
  have hU : upd U (nI c).toNatClampNeg v1 = upd U c v1 := by rw [hcl]
  have hV : upd V (nI c).toNatClampNeg v2 = upd V c v2 := by rw [hcl]
  have hA : upd A (nI c).toNatClampNeg v3 = upd A c v3 := by rw [hcl]
  refine br_f (fun z => h (Or.inl z)) (br_f (fun z => h (Or.inr (Or.inl z))) (br_f (fun z => h (Or.inr (Or.inr (Or.inl z)))) (br_f (fun z => h (Or.inr (Or.inr (Or.inr (Or.inl z))))) (br_f (fun z => h (Or.inr (Or.inr (Or.inr (Or.inr z))))) (br_f (fun z => hw (Or.inl z)) (br_t (Int32.not_lt.mp fun z => hw (Or.inr z)) (br_f hne ?_)))))))
  refine ⟨hin, nm_r hU ⟨hin, nm_r hV ⟨hin, nm_r hA (nm_e (nm_r (nI_1 c) ?_))⟩⟩⟩
  rw [nI_pred]
  exact hp
end
theorem i_vc_edge {k : Nat} {u : SX} {v : SY} (I : i_Rel k u v) (hk : k + 4 ≤ 2048) (v1 : Int32) (v2 : Int32) (v3 : Int32) : wpX_edge (fun r u' => wpY_edge (fun r' v' => r' = r ∧ i_Rel (k + 4) u' v') v v1 v2 v3) u v1 v2 v3 := by
  obtain ⟨c, O, K, E, U, V, A, T, rfl, rfl, hok, hE, hT⟩ := I
  unfold wpX_edge
  dsimp only
  by_cases g : v1 < 0 ∨ 6 < v1 ∨ v2 < 0 ∨ 6 < v2 ∨ v1 = v2
  · have hy : wpY_edge (fun r' v' => r' = -2 ∧ i_Rel (k + 4) (nI c, O, E, A) v') (nI c, O, K, U, V, A, T) v1 v2 v3 := sy_ed2 g ⟨rfl, sr_mk hok hE hT⟩
    by_cases a1 : v1 < 0 ∨ 6 < v1
    · exact sx_vB a1 (br_t rfl hy)
    · refine sx_vG a1 (br_f (by decide) ?_)
      by_cases a2 : v2 < 0 ∨ 6 < v2
      · exact sx_vB a2 (br_t rfl hy)
      · have a3 : v1 = v2 := by
          rcases g with z | z | z | z | z
          · exact absurd (Or.inl z) a1
          · exact absurd (Or.inr z) a1
          · exact absurd (Or.inl z) a2
          · exact absurd (Or.inr z) a2
          · exact z
        exact sx_vG a2 (br_f (by decide) (br_t a3 hy))
  · have a1 : ¬ (v1 < 0 ∨ 6 < v1) := fun z => g (z.elim (fun y => Or.inl y) (fun y => Or.inr (Or.inl y)))
    have a2 : ¬ (v2 < 0 ∨ 6 < v2) := fun z => g (z.elim (fun y => Or.inr (Or.inr (Or.inl y))) (fun y => Or.inr (Or.inr (Or.inr (Or.inl y)))))
    have a3 : ¬ v1 = v2 := fun z => g (Or.inr (Or.inr (Or.inr (Or.inr z))))
    refine sx_vG a1 (br_f (by decide) (sx_vG a2 (br_f (by decide) (br_f a3 ?_))))
    by_cases w : v3 < 0 ∨ 20 < v3
    · have hy : wpY_edge (fun r' v' => r' = -3 ∧ i_Rel (k + 4) (nI c, O, E, A) v') (nI c, O, K, U, V, A, T) v1 v2 v3 := sy_ed3 g w ⟨rfl, sr_mk hok hE hT⟩
      exact sx_wB w (br_t rfl hy)
    · refine sx_wG w (br_f (by decide) ?_)
      rcases Nat.lt_or_ge c 12 with hc | hc
      · have hcl : (nI c).toNatClampNeg = c := nI_clamp (by omega)
        have hin : vp_in (nI c) 12 := vp_in_nI hc (by omega)
        have h1 : upd E (nI c).toNatClampNeg (((1 : Int32) <<< (v1 &&& 31)) ||| ((1 : Int32) <<< (v2 &&& 31))) = upd E c (((1 : Int32) <<< (v1 &&& 31)) ||| ((1 : Int32) <<< (v2 &&& 31))) := by rw [hcl]
        have h2 : upd A (nI c).toNatClampNeg v3 = upd A c v3 := by rw [hcl]
        have hok' : tf_ok (c + 1) (O ||| ((1 : Int32) <<< (nI c &&& 31))) (upd A c v3) := ⟨by omega, tb_lo_or hok.2.1 (by omega) (by omega) (by omega), sr_wt1 hok.2.2 w⟩
        exact br_t (nI_lt (b := 12) hc (by omega)) ⟨hin, nm_r h1 ⟨hin, nm_r h2 (nm_e (nm_r (nI_1 c) (sy_ed5 g w hc ⟨rfl, sr_mk hok' (sr_E1 hE) (fun z => absurd rfl z)⟩)))⟩⟩
      · have ec : nI c = 12 := by
          have t : c = 12 := by have := hok.1; omega
          rw [t]; rfl
        have hy : wpY_edge (fun r' v' => r' = -4 ∧ i_Rel (k + 4) (nI c, O, E, A) v') (nI c, O, K, U, V, A, T) v1 v2 v3 := sy_ed4 g w ec ⟨rfl, sr_mk hok hE hT⟩
        exact br_f (nI_nlt (b := 12) hc (by have := hok.1; omega)) hy
theorem i_vc_weigh {k : Nat} {u : SX} {v : SY} (I : i_Rel k u v) (hk : k + 4 ≤ 2048) (v1 : Int32) (v2 : Int32) : wpX_weigh (fun r u' => wpY_weigh (fun r' v' => r' = r ∧ i_Rel (k + 4) u' v') v v1 v2) u v1 v2 := by
  obtain ⟨c, O, K, E, U, V, A, T, rfl, rfl, hok, hE, hT⟩ := I
  unfold wpX_weigh wpY_weigh
  dsimp only
  rcases sr_ix v1 c with hb | ⟨j, hj, rfl⟩
  · exact sx_exB hb (br_t rfl (sy_badB hb (br_f (by decide) ⟨rfl, sr_mk hok hE hT⟩)))
  · refine sx_exG hok.1 hj (br_f (by decide) ?_)
    by_cases w : v2 < 0 ∨ 20 < v2
    · refine sx_wB w (br_t rfl (sy_badG hok.1 hj (br_t rfl ?_)))
      by_cases w1 : v2 < 0
      · exact br_t w1 ⟨rfl, sr_mk hok hE hT⟩
      · exact br_f w1 (br_f (Int32.not_le.mpr (w.resolve_left w1)) ⟨rfl, sr_mk hok hE hT⟩)
    · have h12 := hok.1
      have hin : vp_in (nI j) 12 := vp_in_nI (by omega) (by omega)
      have hok' : tf_ok c O (upd A (nI j).toNatClampNeg v2) := ⟨hok.1, hok.2.1, sr_wt hok.2.2 w⟩
      exact sx_wG w (br_f (by decide) ⟨hin, nm_e ⟨hin, nm_e (sy_badG hok.1 hj (br_t rfl (br_f (fun z => w (Or.inl z)) (br_t (Int32.not_lt.mp fun z => w (Or.inr z)) ⟨hin, nm_e ⟨hin, nm_e ⟨rfl, sr_mk hok' hE hT⟩⟩⟩))))⟩⟩)
theorem i_vc_turn {k : Nat} {u : SX} {v : SY} (I : i_Rel k u v) (hk : k + 4 ≤ 2048) (v1 : Int32) (v2 : Int32) : wpX_turn (fun r u' => wpY_turn (fun r' v' => r' = r ∧ i_Rel (k + 4) u' v') v v1 (lw_bz v2)) u v1 (lw_bz v2) := by
  obtain ⟨c, O, K, E, U, V, A, T, rfl, rfl, hok, hE, hT⟩ := I
  unfold wpX_turn wpY_turn
  dsimp only
  rcases sr_ix v1 c with hb | ⟨j, hj, rfl⟩
  · exact sx_exB hb (br_t rfl (sy_badB hb (br_f (by decide) ⟨rfl, sr_mk hok hE hT⟩)))
  · have h12 := hok.1
    have ok1 : tf_ok c (O &&& (((1 : Int32) <<< (nI j &&& 31)) ^^^ (-1))) A := ⟨hok.1, tb_lo_cl j hok.2.1, hok.2.2⟩
    have ok2 : tf_ok c (O ||| ((1 : Int32) <<< (nI j &&& 31))) A := ⟨hok.1, tb_lo_or hok.2.1 (Nat.le_refl c) hj hok.1, hok.2.2⟩
    refine sx_exG hok.1 hj (br_f (by decide) (nm_e ?_))
    by_cases hz : (O &&& ((1 : Int32) <<< (nI j &&& 31))) = 0
    · have hr : tb_b O j = 0 := tb_f (by omega) ((tb_an (by omega) O).mp hz)
      refine br_t hz ?_
      by_cases hv : lw_bz v2 = 0
      · exact br_t hv (nm_e (sy_badG hok.1 hj (br_t rfl (nm_e (br_t hv (nm_e ⟨hr, sr_mk ok1 hE (fun z => absurd rfl z)⟩))))))
      · exact br_f hv (nm_e (sy_badG hok.1 hj (br_t rfl (nm_e (br_f hv (nm_e ⟨hr, sr_mk ok2 hE (fun z => absurd rfl z)⟩))))))
    · have hr : tb_b O j = 1 := (tb_01 (by omega) O).mpr (fun z => hz ((tb_an (by omega) O).mpr ((tb_0 (by omega) O).mp z)))
      refine br_f hz ?_
      by_cases hv : lw_bz v2 = 0
      · exact br_t hv (nm_e (sy_badG hok.1 hj (br_t rfl (nm_e (br_t hv (nm_e ⟨hr, sr_mk ok1 hE (fun z => absurd rfl z)⟩))))))
      · exact br_f hv (nm_e (sy_badG hok.1 hj (br_t rfl (nm_e (br_f hv (nm_e ⟨hr, sr_mk ok2 hE (fun z => absurd rfl z)⟩))))))
theorem i_vc_drop {k : Nat} {u : SX} {v : SY} (I : i_Rel k u v) (hk : k + 4 ≤ 2048) : wpX_drop (fun r u' => wpY_drop (fun r' v' => r' = r ∧ i_Rel (k + 4) u' v') v) u := by
  obtain ⟨c, O, K, E, U, V, A, T, rfl, rfl, hok, hE, hT⟩ := I
  unfold wpX_drop wpY_drop
  dsimp only
  cases c with
  | zero => exact br_f (nI_nlt (a := 0) (b := 0) (by omega) (by omega)) (br_t nI_0 ⟨rfl, sr_mk hok hE hT⟩)
  | succ c =>
    have h12 := hok.1
    have hok' : tf_ok c (O &&& (((1 : Int32) <<< (nI c &&& 31)) ^^^ (-1))) A := ⟨by omega, tb_lo_dr (by omega) hok.2.1, fun i hi => hok.2.2 i (by omega)⟩
    have hE' : tf_E c E U V := fun i hi => hE i (by omega)
    exact br_t (nI_lt (a := 0) (b := c + 1) (by omega) (by omega)) (nm_r (nI_pred c) (nm_e (br_f (nI_ne0 (by omega) (by omega)) (nm_r (nI_pred c) (nm_e ⟨rfl, sr_mk hok' hE' (fun z => absurd rfl z)⟩)))))
