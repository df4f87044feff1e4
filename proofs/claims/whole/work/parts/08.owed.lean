theorem i_vc_solutions {k : Nat} {u : SX} {v : SY} (I : i_Rel k u v) (hk : k + 4 ≤ 2048) : wpX_solutions (fun r => wpY_solutions (fun r' v' => r' = r ∧ i_Rel (k + 4) u v') v) u := by
  obtain ⟨a, ps, pp, po, py, tr, pl, n, R, hcn, rfl, rfl⟩ := I
  obtain ⟨r, hX, hY⟩ := tj_loopSol (fc := nI (tj_cn a 512)) (a := a) R 4096 0 0 (by omega)
  have Y : wpY_solutions (fun r' v' => r' = r ∧ i_Rel (k + 4) (nI (tj_cn a 512), nI n, tj_sb (tj_st pl (3 * n)), a, ps, pp, po) v') (nI n, a, py, tr) := by
    unfold wpY_solutions
    exact ⟨4097, hY _ tr (fun tr' => ⟨rfl, a, ps, pp, po, py, tr', pl, n, R, hcn, rfl, rfl⟩)⟩
  unfold wpX_solutions
  exact ⟨4097, hX _ Y⟩
theorem i_vc_solution {k : Nat} {u : SX} {v : SY} (I : i_Rel k u v) (hk : k + 4 ≤ 2048) (v1 : Int32) (v2 : Int32) : wpX_solution (fun r => wpY_solution (fun r' v' => r' = r ∧ i_Rel (k + 4) u v') v v1 v2) u v1 v2 := by
  obtain ⟨a, ps, pp, po, py, tr, pl, n, R, hcn, rfl, rfl⟩ := I
  have keep : ∀ tr' : Nat → Int32, i_Rel (k + 4) (nI (tj_cn a 512), nI n, tj_sb (tj_st pl (3 * n)), a, ps, pp, po) (nI n, a, py, tr') := fun tr' => ⟨a, ps, pp, po, py, tr', pl, n, R, hcn, rfl, rfl⟩
  by_cases hS : tj_S pl n v2
  · have hS' := hS
    obtain ⟨t, ht, rfl, _⟩ := hS'
    obtain ⟨r, h0, hX, hY⟩ := tj_loopOne (fc := nI (tj_cn a 512)) (k := v1) (a := a) R ht 4096 0 0 (by omega) (by omega)
    have Y : ∀ r0, r = r0 → wpY_solution (fun r' v' => r' = r0 ∧ i_Rel (k + 4) (nI (tj_cn a 512), nI n, tj_sb (tj_st pl (3 * n)), a, ps, pp, po) v') (nI n, a, py, tr) v1 (tj_pI t) := by
      intro r0 e
      unfold wpY_solution
      dsimp only
      exact tj_yMissing R (fun _ => br_t rfl ⟨4097, hY _ tr (fun tr' => ⟨e, keep tr'⟩)⟩) (fun w => absurd hS w)
    unfold wpX_solution
    dsimp only
    by_cases hk0 : v1 < 0
    · exact br_t hk0 (Y _ (h0 hk0))
    · exact br_f hk0 (tj_xStands (fun _ => br_f tj_10 ⟨4097, hX _ (Y _ rfl)⟩) (fun w => absurd hS w))
  · have Y : wpY_solution (fun r' v' => r' = -1 ∧ i_Rel (k + 4) (nI (tj_cn a 512), nI n, tj_sb (tj_st pl (3 * n)), a, ps, pp, po) v') (nI n, a, py, tr) v1 v2 := by
      unfold wpY_solution
      dsimp only
      exact tj_yMissing R (fun w => absurd w hS) (fun _ => br_f tj_10 ⟨rfl, keep tr⟩)
    unfold wpX_solution
    dsimp only
    by_cases hk0 : v1 < 0
    · exact br_t hk0 Y
    · exact br_f hk0 (tj_xStands (fun w => absurd w hS) (fun _ => br_t rfl Y))
theorem i_vc_with {k : Nat} {u : SX} {v : SY} (I : i_Rel k u v) (hk : k + 4 ≤ 2048) (v1 : Int32) (v2 : Int32) : wpX_with (fun r => wpY_with (fun r' v' => r' = r ∧ i_Rel (k + 4) u v') v v1 v2) u v1 v2 := by
  obtain ⟨a, ps, pp, po, py, tr, pl, n, R, hcn, rfl, rfl⟩ := I
  have keep : ∀ tr' : Nat → Int32, i_Rel (k + 4) (nI (tj_cn a 512), nI n, tj_sb (tj_st pl (3 * n)), a, ps, pp, po) (nI n, a, py, tr') := fun tr' => ⟨a, ps, pp, po, py, tr', pl, n, R, hcn, rfl, rfl⟩
  by_cases hS : tj_S pl n v1
  · have hS' := hS
    obtain ⟨t, ht, rfl, _⟩ := hS'
    obtain ⟨m, _, _, _, hX, hY⟩ := tj_loopWith (fc := nI (tj_cn a 512)) (x := v2) (a := a) R ht 4096 0 0 (by omega)
    have Y : wpY_with (fun r' v' => r' = nI m ∧ i_Rel (k + 4) (nI (tj_cn a 512), nI n, tj_sb (tj_st pl (3 * n)), a, ps, pp, po) v') (nI n, a, py, tr) (tj_pI t) v2 := by
      unfold wpY_with
      dsimp only
      exact tj_yMissing R (fun _ => br_t rfl ⟨4097, hY _ tr (fun tr' => ⟨rfl, keep tr'⟩)⟩) (fun w => absurd hS w)
    unfold wpX_with
    dsimp only
    exact tj_xStands (fun _ => br_f tj_10 ⟨4097, hX _ Y⟩) (fun w => absurd hS w)
  · have Y : wpY_with (fun r' v' => r' = -1 ∧ i_Rel (k + 4) (nI (tj_cn a 512), nI n, tj_sb (tj_st pl (3 * n)), a, ps, pp, po) v') (nI n, a, py, tr) v1 v2 := by
      unfold wpY_with
      dsimp only
      exact tj_yMissing R (fun w => absurd w hS) (fun _ => br_f tj_10 ⟨rfl, keep tr⟩)
    unfold wpX_with
    dsimp only
    exact tj_xStands (fun w => absurd w hS) (fun _ => br_t rfl Y)
theorem i_vc_values {k : Nat} {u : SX} {v : SY} (I : i_Rel k u v) (hk : k + 4 ≤ 2048) (v1 : Int32) : wpX_values (fun r => wpY_values (fun r' v' => r' = r ∧ i_Rel (k + 4) u v') v v1) u v1 := by
  obtain ⟨a, ps, pp, po, py, tr, pl, n, R, hcn, rfl, rfl⟩ := I
  have keep : ∀ tr' : Nat → Int32, i_Rel (k + 4) (nI (tj_cn a 512), nI n, tj_sb (tj_st pl (3 * n)), a, ps, pp, po) (nI n, a, py, tr') := fun tr' => ⟨a, ps, pp, po, py, tr', pl, n, R, hcn, rfl, rfl⟩
  by_cases hS : tj_S pl n v1
  · have hS' := hS
    obtain ⟨t, ht, rfl, _⟩ := hS'
    obtain ⟨s, hb, hX⟩ := tj_loopSeen (fc := nI (tj_cn a 512)) (a := a) R ht 4096 0 0 (by omega)
    have hs : ∀ i, i < 8 → (bt s i = true ↔ tj_T a pl n t (nI i) 0) := by
      intro i hi
      rw [hb i hi, b_0]
      simp
    have hW : ∀ i, i < 8 → ∃ m : Nat, m ≤ 4096 ∧ (0 < m ↔ tj_T a pl n t (nI i) 0) ∧ ∀ (post : Int32 → SY → Prop) (tr : Nat → Int32), (∀ tr' : Nat → Int32, post (nI m) (nI n, a, py, tr')) → wpY_with post (nI n, a, py, tr) (tj_pI t) (nI i) := by
      intro i hi
      obtain ⟨m, _, m2, m3, _, hY⟩ := tj_loopWith (fc := 0) (x := nI i) (a := a) R ht 4096 0 0 (by omega)
      refine ⟨m, by omega, m3, fun post tr h => ?_⟩
      unfold wpY_with
      dsimp only
      exact tj_yMissing R (fun _ => br_t rfl ⟨4097, hY post tr h⟩) (fun w => absurd hS w)
    obtain ⟨r, hX2, hY2⟩ := tj_loopNum (fun i => tj_T a pl n t (nI i) 0) hs hW 8 0 0 (by omega)
    have hC : ∀ post : Int32 → Prop, post r → wpX_countNumbersIn post s := by
      intro post h
      unfold wpX_countNumbersIn
      exact ⟨9, hX2 post h⟩
    have Y : wpY_values (fun r' v' => r' = r ∧ i_Rel (k + 4) (nI (tj_cn a 512), nI n, tj_sb (tj_st pl (3 * n)), a, ps, pp, po) v') (nI n, a, py, tr) (tj_pI t) := by
      unfold wpY_values
      dsimp only
      exact tj_yMissing R (fun _ => br_t rfl ⟨9, hY2 _ tr (fun tr' => ⟨rfl, keep tr'⟩)⟩) (fun w => absurd hS w)
    unfold wpX_values
    dsimp only
    exact tj_xStands (fun _ => br_f tj_10 ⟨4097, hX _ (hC _ Y)⟩) (fun w => absurd hS w)
  · have Y : wpY_values (fun r' v' => r' = -1 ∧ i_Rel (k + 4) (nI (tj_cn a 512), nI n, tj_sb (tj_st pl (3 * n)), a, ps, pp, po) v') (nI n, a, py, tr) v1 := by
      unfold wpY_values
      dsimp only
      exact tj_yMissing R (fun w => absurd w hS) (fun _ => br_f tj_10 ⟨rfl, keep tr⟩)
    unfold wpX_values
    dsimp only
    exact tj_xStands (fun w => absurd w hS) (fun _ => br_t rfl Y)
theorem i_vc_count {k : Nat} {u : SX} {v : SY} (I : i_Rel k u v) (hk : k + 4 ≤ 2048) (v1 : Int32) (v2 : Int32) (v3 : Int32) : wpX_count (fun r => wpY_count (fun r' => r' = r ∧ i_Rel (k + 4) u v) v v1 v2 v3) u v1 v2 v3 := by
  obtain ⟨a, ps, pp, po, py, tr, pl, n, R, hcn, rfl, rfl⟩ := I
  have keep : i_Rel (k + 4) (nI (tj_cn a 512), nI n, tj_sb (tj_st pl (3 * n)), a, ps, pp, po) (nI n, a, py, tr) := ⟨a, ps, pp, po, py, tr, pl, n, R, hcn, rfl, rfl⟩
  obtain ⟨r, hX, hY⟩ := tj_loopCount (fc := nI (tj_cn a 512)) (pc := nI n) (pd := nI n) (sb := tj_sb (tj_st pl (3 * n))) (s := v1) (p := v2) (o := v3) (a := a) (ps := ps) (pp := pp) (po := po) (py := py) (tr := tr) 512 0 0 (by omega)
  have Y : wpY_count (fun r' => r' = r ∧ i_Rel (k + 4) (nI (tj_cn a 512), nI n, tj_sb (tj_st pl (3 * n)), a, ps, pp, po) (nI n, a, py, tr)) (nI n, a, py, tr) v1 v2 v3 := by
    unfold wpY_count
    exact ⟨513, hY _ ⟨rfl, keep⟩⟩
  unfold wpX_count
  exact ⟨513, hX _ Y⟩
theorem i_vc_has {k : Nat} {u : SX} {v : SY} (I : i_Rel k u v) (hk : k + 4 ≤ 2048) (v1 : Int32) (v2 : Int32) (v3 : Int32) : wpX_has (fun r => wpY_has (fun r' => r' = r ∧ i_Rel (k + 4) u v) v v1 v2 v3) u v1 v2 v3 := by
  obtain ⟨a, ps, pp, po, py, tr, pl, n, R, hcn, rfl, rfl⟩ := I
  have keep : i_Rel (k + 4) (nI (tj_cn a 512), nI n, tj_sb (tj_st pl (3 * n)), a, ps, pp, po) (nI n, a, py, tr) := ⟨a, ps, pp, po, py, tr, pl, n, R, hcn, rfl, rfl⟩
  unfold wpX_has
  dsimp only
  exact tj_xHeld (fun h => br_f tj_10 (tj_yHas (fun _ => ⟨rfl, keep⟩) (fun w => absurd h w))) (fun h => br_t rfl (tj_yHas (fun w => absurd w h) (fun _ => ⟨rfl, keep⟩)))
