/-! ===== the reference's add, remove, pattern, each with a general post ===== -/
theorem tj_yAdd {post : Int32 → SY → Prop} {pc : Int32} {a py tr : Nat → Int32} {s p o : Int32} (hr : (¬ (tj_N s ∧ tj_N p ∧ tj_N o) ∨ tj_H a s p o ∨ tj_cn a 512 = 48) → post (-1) (pc, a, py, tr)) (hok : ∀ i j k, i < 8 → j < 8 → k < 8 → s = nI i → p = nI j → o = nI k → a (64 * i + 8 * j + k) = 0 → ¬ tj_cn a 512 = 48 → post (nI (tj_cn (upd a (64 * i + 8 * j + k) 1) 512)) (pc, upd a (64 * i + 8 * j + k) 1, py, tr)) : wpY_add post (pc, a, py, tr) s p o := by
  unfold wpY_add
  dsimp only
  refine tj_yHas (fun hH => br_t rfl (hr (Or.inr (Or.inl hH)))) (fun hH => br_f (by decide) ?_)
  refine tj_yOut (fun hs => br_t rfl ?_) (fun hs => br_f tj_10 (hr (Or.inl fun z => hs z.1)))
  refine tj_yOut (fun hp => br_t rfl ?_) (fun hp => br_f tj_10 (hr (Or.inl fun z => hp z.2.1)))
  refine tj_yOut (fun ho => br_t rfl ?_) (fun ho => br_f tj_10 (hr (Or.inl fun z => ho z.2.2)))
  obtain ⟨i, hi, rfl⟩ := tj_N_of hs
  obtain ⟨j, hj, rfl⟩ := tj_N_of hp
  obtain ⟨k, hk, rfl⟩ := tj_N_of ho
  have hx : 64 * i + 8 * j + k < 512 := by omega
  have hz : a (64 * i + 8 * j + k) = 0 := by
    by_cases z : a (64 * i + 8 * j + k) = 0
    · exact z
    · exact absurd ((tj_H_nI hi hj hk).mpr z) hH
  have hle := tj_cn_le a 512
  refine tj_yHeld ?_
  by_cases e : tj_cn a 512 = 48
  · exact br_t (by rw [e]; rfl) (hr (Or.inr (Or.inr e)))
  · refine br_f (fun w => e ((nI_eq (a := tj_cn a 512) (b := 48) (by omega) (by omega)).mp w)) ?_
    rw [tj_fy]
    refine ⟨vp_in_nI hx (by omega), ?_⟩
    rw [nI_clamp (by omega), tj_vb1]
    exact nm_e (tj_yHeld (hok i j k hi hj hk rfl rfl rfl hz e))
theorem tj_yRem {post : Int32 → SY → Prop} {pc : Int32} {a py tr : Nat → Int32} {s p o : Int32} (hr : ¬ tj_H a s p o → post (-1) (pc, a, py, tr)) (hok : ∀ i j k, i < 8 → j < 8 → k < 8 → s = nI i → p = nI j → o = nI k → ¬ a (64 * i + 8 * j + k) = 0 → post (nI (tj_cn (upd a (64 * i + 8 * j + k) 0) 512)) (pc, upd a (64 * i + 8 * j + k) 0, py, tr)) : wpY_remove post (pc, a, py, tr) s p o := by
  unfold wpY_remove
  dsimp only
  refine tj_yHas (fun hH => br_f tj_10 ?_) (fun hH => br_t rfl (hr hH))
  obtain ⟨i, j, k, hi, hj, hk, rfl, rfl, rfl, hz⟩ := hH
  have hx : 64 * i + 8 * j + k < 512 := by omega
  rw [tj_fy]
  refine ⟨vp_in_nI hx (by omega), ?_⟩
  rw [nI_clamp (by omega), tj_vb0]
  exact nm_e (tj_yHeld (hok i j k hi hj hk rfl rfl rfl hz))
theorem tj_yPat {post : Int32 → SY → Prop} {n : Nat} {a py tr : Nat → Int32} {s p o : Int32} (hn : n ≤ 4) (hr : ¬ (tj_L s ∧ tj_L p ∧ tj_L o ∧ n < 4) → post (-1) (nI n, a, py, tr)) (hok : tj_L s → tj_L p → tj_L o → n < 4 → post (nI (n + 1)) (nI (n + 1), a, upd (upd (upd py (3 * n) s) (3 * n + 1) p) (3 * n + 2) o, tr)) : wpY_pattern post (nI n, a, py, tr) s p o := by
  unfold wpY_pattern
  dsimp only
  by_cases h1 : s < -4
  · exact br_t h1 (hr fun z => z.1.1 h1)
  refine br_f h1 ?_
  by_cases h2 : 7 < s
  · exact br_t h2 (hr fun z => z.1.2 h2)
  refine br_f h2 ?_
  by_cases h3 : p < -4
  · exact br_t h3 (hr fun z => z.2.1.1 h3)
  refine br_f h3 ?_
  by_cases h4 : 7 < p
  · exact br_t h4 (hr fun z => z.2.1.2 h4)
  refine br_f h4 ?_
  by_cases h5 : o < -4
  · exact br_t h5 (hr fun z => z.2.2.1.1 h5)
  refine br_f h5 ?_
  by_cases h6 : 7 < o
  · exact br_t h6 (hr fun z => z.2.2.1.2 h6)
  refine br_f h6 ?_
  by_cases h7 : n = 4
  · exact br_t (by rw [h7]; rfl) (hr fun z => by omega)
  have hn4 : n < 4 := by omega
  have e0 : (3 : Int32) * nI n = nI (3 * n) := pk_mul 3 n
  have e1 : (3 : Int32) * nI n + 1 = nI (3 * n + 1) := by rw [e0]; exact nI_1 _
  have e2 : (3 : Int32) * nI n + 2 = nI (3 * n + 2) := by rw [e0]; exact nI_add _ 2
  have c0 : (nI (3 * n)).toNatClampNeg = 3 * n := nI_clamp (by omega)
  have c1 : (nI (3 * n + 1)).toNatClampNeg = 3 * n + 1 := nI_clamp (by omega)
  have c2 : (nI (3 * n + 2)).toNatClampNeg = 3 * n + 2 := nI_clamp (by omega)
  refine br_f (fun w => h7 ((nI_eq (a := n) (b := 4) (by omega) (by omega)).mp w)) ?_
  rw [e1, e2, e0, c0, c1, c2]
  exact ⟨vp_in_nI (by omega) (by omega), nm_e ⟨vp_in_nI (by omega) (by omega), nm_e ⟨vp_in_nI (by omega) (by omega), nm_e (nm_r (nI_1 n) (hok ⟨h1, h2⟩ ⟨h3, h4⟩ ⟨h5, h6⟩ hn4))⟩⟩⟩
/-! ===== the relation ===== -/
theorem tj_sb0 (pl : Nat → Nat) : tj_sb (tj_st pl (3 * 0)) = 0 := by
  show tj_s4 false false false false = 0
  decide
/-- the same facts and their number; the same places by ghost codes; the mask of the variables that stand -/
def i_Rel (_ : Nat) (u : SX) (v : SY) : Prop := ∃ (a ps pp po py tr : Nat → Int32) (pl : Nat → Nat) (n : Nat), tj_R pl n ps pp po py ∧ tj_cn a 512 ≤ 48 ∧ u = (nI (tj_cn a 512), nI n, tj_sb (tj_st pl (3 * n)), a, ps, pp, po) ∧ v = (nI n, a, py, tr)
theorem i_up {k : Nat} {u : SX} {v : SY} (h : i_Rel k u v) : i_Rel (k + 4) u v := h
theorem i_vc0 : wpX_init (fun u => wpY_init (fun v => i_Rel 0 u v)) := by
  refine ⟨fun _ => 0, fun _ => 0, fun _ => 0, fun _ => 0, fun _ => 0, fun _ => 0, fun _ => 4, 0, ⟨by omega, fun _ => (by decide : (4 : Nat) < 12), fun i hi => absurd hi (Nat.not_lt_zero i), fun j hj => absurd hj (by omega)⟩, by rw [tj_cn_0]; omega, ?_, rfl⟩
  rw [tj_cn_0, tj_sb0]
  rfl
theorem i_vc_add {k : Nat} {u : SX} {v : SY} (I : i_Rel k u v) (hk : k + 4 ≤ 2048) (v1 : Int32) (v2 : Int32) (v3 : Int32) : wpX_add (fun r u' => wpY_add (fun r' v' => r' = r ∧ i_Rel (k + 4) u' v') v v1 v2 v3) u v1 v2 v3 := by
  obtain ⟨a, ps, pp, po, py, tr, pl, n, R, hcn, rfl, rfl⟩ := I
  have keep : i_Rel (k + 4) (nI (tj_cn a 512), nI n, tj_sb (tj_st pl (3 * n)), a, ps, pp, po) (nI n, a, py, tr) := ⟨a, ps, pp, po, py, tr, pl, n, R, hcn, rfl, rfl⟩
  unfold wpX_add
  dsimp only
  refine tj_xFact (fun hs hp ho => br_f tj_10 ?_) (fun hn => br_t rfl (tj_yAdd (fun _ => ⟨rfl, keep⟩) (fun i j k hi hj hk e1 e2 e3 _ _ => absurd ⟨by rw [e1]; exact tj_N_nI hi, by rw [e2]; exact tj_N_nI hj, by rw [e3]; exact tj_N_nI hk⟩ hn)))
  obtain ⟨i, hi, rfl⟩ := tj_N_of hs
  obtain ⟨j, hj, rfl⟩ := tj_N_of hp
  obtain ⟨l, hl, rfl⟩ := tj_N_of ho
  have hx : 64 * i + 8 * j + l < 512 := by omega
  by_cases hc : tj_cn a 512 < 48
  · refine br_t (nI_lt (b := 48) hc (by omega)) (tj_xIdx hi hj hl ⟨vp_in_nI hx (by omega), ?_⟩)
    rw [nI_clamp (by omega)]
    by_cases z : a (64 * i + 8 * j + l) = 0
    · refine br_t z ⟨vp_in_nI hx (by omega), ?_⟩
      rw [tj_vb1]
      refine nm_e (nm_r (nI_1 _) ?_)
      have ec := tj_cn_add z tj_10 512 hx
      refine tj_yAdd (fun w => ?_) (fun i' j' l' hi' hj' hl' e1 e2 e3 _ _ => ?_)
      · rcases w with w | w | w
        · exact absurd ⟨tj_N_nI hi, tj_N_nI hj, tj_N_nI hl⟩ w
        · exact absurd z ((tj_H_nI hi hj hl).mp w)
        · omega
      · rw [nI_eq (by omega) (by omega)] at e1 e2 e3
        rw [← e1, ← e2, ← e3]
        exact ⟨by rw [ec], upd a (64 * i + 8 * j + l) 1, ps, pp, po, py, tr, pl, n, R, by omega, by rw [ec], rfl⟩
    · refine br_f z (tj_yAdd (fun _ => ⟨rfl, keep⟩) (fun i' j' l' hi' hj' hl' e1 e2 e3 z' _ => ?_))
      rw [nI_eq (by omega) (by omega)] at e1 e2 e3
      rw [← e1, ← e2, ← e3] at z'
      exact absurd z' z
  · exact br_f (nI_nlt (b := 48) (by omega) (by omega)) (tj_yAdd (fun _ => ⟨rfl, keep⟩) (fun i' j' l' hi' hj' hl' e1 e2 e3 _ h48 => by omega))
theorem i_vc_remove {k : Nat} {u : SX} {v : SY} (I : i_Rel k u v) (hk : k + 4 ≤ 2048) (v1 : Int32) (v2 : Int32) (v3 : Int32) : wpX_remove (fun r u' => wpY_remove (fun r' v' => r' = r ∧ i_Rel (k + 4) u' v') v v1 v2 v3) u v1 v2 v3 := by
  obtain ⟨a, ps, pp, po, py, tr, pl, n, R, hcn, rfl, rfl⟩ := I
  have keep : i_Rel (k + 4) (nI (tj_cn a 512), nI n, tj_sb (tj_st pl (3 * n)), a, ps, pp, po) (nI n, a, py, tr) := ⟨a, ps, pp, po, py, tr, pl, n, R, hcn, rfl, rfl⟩
  unfold wpX_remove
  dsimp only
  refine tj_xHeld (fun hH => br_f tj_10 ?_) (fun hH => br_t rfl (tj_yRem (fun _ => ⟨rfl, keep⟩) (fun i j l hi hj hl e1 e2 e3 z => absurd ⟨i, j, l, hi, hj, hl, e1, e2, e3, z⟩ hH)))
  obtain ⟨i, j, l, hi, hj, hl, rfl, rfl, rfl, z⟩ := hH
  have hx : 64 * i + 8 * j + l < 512 := by omega
  have ec := tj_cn_rem z 512 hx
  refine tj_xIdx hi hj hl ⟨vp_in_nI hx (by omega), ?_⟩
  rw [nI_clamp (by omega), tj_vb0]
  refine nm_e (nm_r (e' := nI (tj_cn (upd a (64 * i + 8 * j + l) 0) 512)) (by rw [← ec]; exact nI_pred _) ?_)
  refine tj_yRem (fun w => absurd ((tj_H_nI hi hj hl).mpr z) w) (fun i' j' l' hi' hj' hl' e1 e2 e3 _ => ?_)
  rw [nI_eq (by omega) (by omega)] at e1 e2 e3
  rw [← e1, ← e2, ← e3]
  exact ⟨rfl, upd a (64 * i + 8 * j + l) 0, ps, pp, po, py, tr, pl, n, R, by omega, rfl, rfl⟩
theorem i_vc_pattern {k : Nat} {u : SX} {v : SY} (I : i_Rel k u v) (hk : k + 4 ≤ 2048) (v1 : Int32) (v2 : Int32) (v3 : Int32) : wpX_pattern (fun r u' => wpY_pattern (fun r' v' => r' = r ∧ i_Rel (k + 4) u' v') v v1 v2 v3) u v1 v2 v3 := by
  obtain ⟨a, ps, pp, po, py, tr, pl, n, R, hcn, rfl, rfl⟩ := I
  have keep : i_Rel (k + 4) (nI (tj_cn a 512), nI n, tj_sb (tj_st pl (3 * n)), a, ps, pp, po) (nI n, a, py, tr) := ⟨a, ps, pp, po, py, tr, pl, n, R, hcn, rfl, rfl⟩
  have hn := R.1
  unfold wpX_pattern
  dsimp only
  refine tj_xPlace (fun hs => br_f tj_10 ?_) (fun hs => br_t rfl (tj_yPat hn (fun _ => ⟨rfl, keep⟩) (fun h _ _ _ => absurd h hs)))
  refine tj_xPlace (fun hp => br_f tj_10 ?_) (fun hp => br_t rfl (tj_yPat hn (fun _ => ⟨rfl, keep⟩) (fun _ h _ _ => absurd h hp)))
  refine tj_xPlace (fun ho => br_f tj_10 ?_) (fun ho => br_t rfl (tj_yPat hn (fun _ => ⟨rfl, keep⟩) (fun _ _ h _ => absurd h ho)))
  by_cases h4 : n < 4
  · have vn : vp_in (nI n) 4 := vp_in_nI h4 (by omega)
    have cn : (nI n).toNatClampNeg = n := nI_clamp (by omega)
    refine br_t (nI_lt (b := 4) h4 (by omega)) ⟨vn, ?_⟩
    rw [cn]
    refine nm_e ⟨vn, nm_e ⟨vn, nm_e (nm_r (nI_1 n) ?_)⟩⟩
    have hs' := hs
    have hp' := hp
    have ho' := ho
    obtain ⟨t1, ht1, rfl⟩ := tj_L_of hs
    obtain ⟨t2, ht2, rfl⟩ := tj_L_of hp
    obtain ⟨t3, ht3, rfl⟩ := tj_L_of ho
    refine tj_xBits ht1 (tj_xBits ht2 (tj_xBits ht3 (nm_r (tj_sb_pl pl (3 * n) t1 t2 t3) ?_)))
    refine tj_yPat hn (fun w => absurd ⟨hs', hp', ho', h4⟩ w) (fun _ _ _ _ => ⟨rfl, ?_⟩)
    refine ⟨a, upd ps n (tj_pI t1), upd pp n (tj_pI t2), upd po n (tj_pI t3), upd (upd (upd py (3 * n) (tj_pI t1)) (3 * n + 1) (tj_pI t2)) (3 * n + 2) (tj_pI t3), tr, tj_pl pl (3 * n) t1 t2 t3, n + 1, ⟨by omega, tj_pl_lt R.2.1 ht1 ht2 ht3, fun i hi => ?_, fun j hj => ?_⟩, hcn, rfl, rfl⟩
    · rcases Nat.lt_or_ge i n with w | w
      · rw [pk_un (by omega), pk_un (by omega), pk_un (by omega), tj_pl_o (by omega), tj_pl_o (by omega), tj_pl_o (by omega)]
        exact R.2.2.1 i w
      · have e : i = n := by omega
        rw [e, pk_us, pk_us, pk_us, tj_pl_0, tj_pl_1, tj_pl_2]
        exact ⟨rfl, rfl, rfl⟩
    · rcases Nat.lt_or_ge j (3 * n) with w | w
      · rw [pk_un (by omega), pk_un (by omega), pk_un (by omega), tj_pl_o w]
        exact R.2.2.2 j w
      · have h3 : j = 3 * n ∨ j = 3 * n + 1 ∨ j = 3 * n + 2 := by omega
        rcases h3 with e | e | e
        · rw [e, pk_un (by omega), pk_un (by omega), pk_us, tj_pl_0]
        · rw [e, pk_un (by omega), pk_us, tj_pl_1]
        · rw [e, pk_us, tj_pl_2]
  · exact br_f (nI_nlt (b := 4) (by omega) (by omega)) (tj_yPat hn (fun _ => ⟨rfl, keep⟩) (fun _ _ _ h => absurd h h4))
theorem i_vc_clear {k : Nat} {u : SX} {v : SY} (I : i_Rel k u v) (hk : k + 4 ≤ 2048) : wpX_clear (fun u' => wpY_clear (fun v' => i_Rel (k + 4) u' v') v) u := by
  obtain ⟨a, ps, pp, po, py, tr, pl, n, R, hcn, rfl, rfl⟩ := I
  refine ⟨a, ps, pp, po, py, tr, pl, 0, ⟨by omega, R.2.1, fun i hi => absurd hi (Nat.not_lt_zero i), fun j hj => absurd hj (by omega)⟩, hcn, ?_, rfl⟩
  rw [tj_sb0]
  rfl
