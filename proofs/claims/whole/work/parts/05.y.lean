/-! ===== the reference's own methods, each with a general post ===== -/
theorem tj_yOut {post : Int32 → Prop} {x : Int32} (h0 : tj_N x → post 0) (h1 : ¬ tj_N x → post 1) : wpY_outside post x := by
  unfold wpY_outside
  by_cases ha : x < 0
  · exact br_t ha (h1 fun z => z.1 ha)
  · refine br_f ha ?_
    by_cases hb : x ≤ 7
    · exact br_t hb (h0 ⟨ha, Int32.not_lt.mpr hb⟩)
    · exact br_f hb (h1 fun z => z.2 (Int32.not_le.mp hb))
theorem tj_yHeldLoop {post : Int32 → Prop} {pc : Int32} {a py tr : Nat → Int32} (h : post (nI (tj_cn a 512))) : ∀ d i, i + d = 512 → wY_held_4 post pc a py tr (d + 1) (nI (tj_cn a i)) (nI i) := by
  intro d
  induction d with
  | zero =>
    intro i hi
    have e : i = 512 := by omega
    rw [e]
    exact br_t (nI_le (a := 512) (b := 512) (by omega) (by omega)) h
  | succ d ih =>
    intro i hi
    have hi5 : i < 512 := by omega
    have ih' := ih (i + 1) (by omega)
    refine br_f (nI_ge (b := 512) hi5 (by omega)) ⟨vp_in_nI hi5 (by omega), ?_⟩
    rw [nI_clamp (by omega)]
    by_cases z : a i = 0
    · rw [tj_cn_z z] at ih'
      exact br_t z (nm_r (nI_1 i) ih')
    · rw [tj_cn_n z] at ih'
      exact br_f z (nm_r (nI_1 _) (nm_r (nI_1 i) ih'))
theorem tj_yHeld {post : Int32 → Prop} {pc : Int32} {a py tr : Nat → Int32} (h : post (nI (tj_cn a 512))) : wpY_held post (pc, a, py, tr) := by
  unfold wpY_held
  exact ⟨513, tj_yHeldLoop h 512 0 (by omega)⟩
theorem tj_yHas {post : Int32 → Prop} {pc : Int32} {a py tr : Nat → Int32} {s p o : Int32} (h1 : tj_H a s p o → post 1) (h0 : ¬ tj_H a s p o → post 0) : wpY_has post (pc, a, py, tr) s p o := by
  unfold wpY_has
  dsimp only
  refine tj_yOut (fun hs => br_t rfl ?_) (fun hs => br_f tj_10 (h0 fun z => hs (tj_H_N z).1))
  refine tj_yOut (fun hp => br_t rfl ?_) (fun hp => br_f tj_10 (h0 fun z => hp (tj_H_N z).2.1))
  refine tj_yOut (fun ho => br_t rfl ?_) (fun ho => br_f tj_10 (h0 fun z => ho (tj_H_N z).2.2))
  obtain ⟨i, hi, rfl⟩ := tj_N_of hs
  obtain ⟨j, hj, rfl⟩ := tj_N_of hp
  obtain ⟨k, hk, rfl⟩ := tj_N_of ho
  have hx : 64 * i + 8 * j + k < 512 := by omega
  rw [tj_fy, nI_clamp (by omega)]
  refine ⟨vp_in_nI hx (by omega), ?_⟩
  by_cases z : a (64 * i + 8 * j + k) = 0
  · exact br_t z (h0 fun w => (tj_H_nI hi hj hk).mp w z)
  · exact br_f z (h1 ((tj_H_nI hi hj hk).mpr z))
theorem tj_yStandsLoop {post : Int32 → Prop} {a ps pp po py tr : Nat → Int32} {pl : Nat → Nat} {n j : Nat} (R : tj_R pl n ps pp po py) (hj : j < 4) (h1 : tj_st pl (3 * n) (3 - j) = true → post 1) (h0 : tj_st pl (3 * n) (3 - j) = false → post 0) : ∀ d i, i + d = 3 * n → tj_st pl i (3 - j) = false → wY_stands_2 post (nI j) (nI n) a py tr (d + 1) (nI i) := by
  obtain ⟨hn, hpl, _, hy⟩ := R
  have e3 : (3 : Int32) * nI n = nI (3 * n) := pk_mul 3 n
  intro d
  induction d with
  | zero =>
    intro i hi hf
    have e : i = 3 * n := by omega
    rw [e] at hf ⊢
    exact br_t (by rw [e3]; exact nI_le (Nat.le_refl _) (by omega)) (h0 hf)
  | succ d ih =>
    intro i hi hf
    have hin : i < 3 * n := by omega
    have hcond : py i = -1 - nI j ↔ pl i = 3 - j := by
      rw [hy i hin]
      exact tj_ne _ (hpl i) j hj
    refine br_f (by rw [e3]; exact nI_ge hin (by omega)) ⟨vp_in_nI (by omega) (by omega), ?_⟩
    rw [nI_clamp (by omega)]
    by_cases z : pl i = 3 - j
    · exact br_t (hcond.mpr z) (h1 (tj_st_mono _ i hin z))
    · exact br_f (fun w => z (hcond.mp w)) (nm_r (nI_1 i) (ih (i + 1) (by omega) (tj_st_s hf z)))
theorem tj_yStands {post : Int32 → Prop} {a ps pp po py tr : Nat → Int32} {pl : Nat → Nat} {n j : Nat} (R : tj_R pl n ps pp po py) (hj : j < 4) (h1 : tj_st pl (3 * n) (3 - j) = true → post 1) (h0 : tj_st pl (3 * n) (3 - j) = false → post 0) : wpY_stands post (nI n, a, py, tr) (nI j) := by
  unfold wpY_stands
  exact ⟨3 * n + 1, tj_yStandsLoop R hj h1 h0 (3 * n) 0 (by omega) rfl⟩
theorem tj_yMissing {post : Int32 → Prop} {a ps pp po py tr : Nat → Int32} {pl : Nat → Nat} {n : Nat} {x : Int32} (R : tj_R pl n ps pp po py) (h0 : tj_S pl n x → post 0) (h1 : ¬ tj_S pl n x → post 1) : wpY_missing post (nI n, a, py, tr) x := by
  unfold wpY_missing
  dsimp only
  by_cases ha : x < -4
  · exact br_t ha (h1 fun z => (tj_S_V z).1 ha)
  · refine br_f ha ?_
    by_cases hb : -1 < x
    · refine br_t hb (h1 fun z => ?_)
      have h2 := (tj_S_V z).2
      rw [Int32.lt_iff_toInt_lt] at hb h2
      have e1 : (-1 : Int32).toInt = -1 := by decide
      have e2 : (0 : Int32).toInt = 0 := by decide
      rw [e1] at hb
      rw [e2] at h2
      omega
    · refine br_f hb ?_
      have hv : tj_V x := by
        refine ⟨ha, ?_⟩
        rw [Int32.lt_iff_toInt_lt] at hb ⊢
        have e1 : (-1 : Int32).toInt = -1 := by decide
        have e2 : (0 : Int32).toInt = 0 := by decide
        rw [e1] at hb
        rw [e2]
        omega
      obtain ⟨t, ht, rfl⟩ := tj_V_of hv
      have e : 3 - (3 - t) = t := by omega
      rw [tj_var t ht]
      refine tj_yStands R (by omega) (fun hs => br_f tj_10 (h0 ((tj_S_pI ht).mpr ?_))) (fun hs => br_t rfl (h1 fun z => ?_))
      · rw [e] at hs
        exact hs
      · rw [e] at hs
        rw [tj_S_pI ht, hs] at z
        exact absurd z (by decide)
theorem tj_yFilled {post : Int32 → Prop} {a ps pp po py tr : Nat → Int32} {pl : Nat → Nat} {n c i : Nat} (R : tj_R pl n ps pp po py) (htr : ∀ j, j < 4 → tr j = nI (c / 8 ^ (3 - j) % 8)) (hi : i < 3 * n) (h : post (nI (tj_pv (pl i) c))) : wpY_filled post (nI n, a, py, tr) (nI i) := by
  obtain ⟨hn, hpl, _, hy⟩ := R
  have vi : vp_in (nI i) 12 := vp_in_nI (by omega) (by omega)
  unfold wpY_filled
  dsimp only
  refine ⟨vi, ?_⟩
  rw [nI_clamp (by omega), hy i hi]
  have hp := hpl i
  rcases Nat.lt_or_ge (pl i) 4 with h4 | h4
  · refine br_t (tj_neg _ h4).1 ⟨vi, ?_⟩
    rw [tj_var _ h4]
    refine ⟨vp_in_nI (by omega) (by omega), ?_⟩
    have e : 3 - (3 - pl i) = pl i := by omega
    rw [nI_clamp (by omega), htr _ (by omega), e]
    rw [tj_pv_v h4] at h
    exact h
  · rw [tj_pv_n h4] at h
    rw [tj_pos h4]
    exact br_f (nI_pos (by omega)) ⟨vi, h⟩
/-! ===== a solution, on the reference's side ===== -/
theorem tj_ySolLoop {post : Int32 → SY → Prop} {a ps pp po py tr : Nat → Int32} {pl : Nat → Nat} {n c : Nat} (R : tj_R pl n ps pp po py) (htr : ∀ j, j < 4 → tr j = nI (c / 8 ^ (3 - j) % 8)) (hf : ∀ t, t < 4 → c / 8 ^ t % 8 ≠ 0 → tj_st pl (3 * n) t = true) (h1 : tj_P a pl n c → post 1 (nI n, a, py, tr)) (h0 : ¬ tj_P a pl n c → post 0 (nI n, a, py, tr)) : ∀ d k, k + d = n → (∀ q, q < k → ¬ a (tj_ix pl c q) = 0) → wY_solves_51 post (nI n) a py tr (d + 1) (nI k) := by
  have hn := R.1
  have hpl := R.2.1
  intro d
  induction d with
  | zero =>
    intro k hk hq
    exact br_t (nI_le (by omega) (by omega)) (h1 ⟨hf, fun q hqn => hq q (by omega)⟩)
  | succ d ih =>
    intro k hk hq
    have hkn : k < n := by omega
    have e0 : (3 : Int32) * nI k = nI (3 * k) := pk_mul 3 k
    have e1 : (3 : Int32) * nI k + 1 = nI (3 * k + 1) := by rw [e0]; exact nI_1 _
    have e2 : (3 : Int32) * nI k + 2 = nI (3 * k + 2) := by rw [e0]; exact nI_add _ 2
    have l1 := tj_pv_lt (c := c) (hpl (3 * k))
    have l2 := tj_pv_lt (c := c) (hpl (3 * k + 1))
    have l3 := tj_pv_lt (c := c) (hpl (3 * k + 2))
    have hx := tj_ix_lt hpl c k
    refine br_f (nI_ge hkn (by omega)) ?_
    rw [e1, e2, e0]
    refine tj_yFilled R htr (by omega) ?_
    refine tj_yFilled R htr (by omega) ?_
    refine tj_yFilled R htr (by omega) ?_
    rw [tj_fy]
    refine ⟨vp_in_nI hx (by omega), ?_⟩
    have ec : (nI (64 * tj_pv (pl (3 * k)) c + 8 * tj_pv (pl (3 * k + 1)) c + tj_pv (pl (3 * k + 2)) c)).toNatClampNeg = tj_ix pl c k := nI_clamp (by omega)
    rw [ec]
    by_cases z : a (tj_ix pl c k) = 0
    · exact br_t z (h0 fun w => w.2 k hkn z)
    · refine br_f z (nm_r (nI_1 k) (ih (k + 1) (by omega) ?_))
      intro q hq'
      rcases Nat.lt_or_ge q k with w | w
      · exact hq q w
      · have e : q = k := by omega
        rw [e]
        exact z
theorem tj_ySolves1 {post : Int32 → SY → Prop} {a ps pp po py : Nat → Int32} {pl : Nat → Nat} {n c : Nat} (R : tj_R pl n ps pp po py) (hc : c < 4096) (h1 : tj_P a pl n c → ∀ tr : Nat → Int32, (∀ j, j < 4 → tr j = nI (c / 8 ^ (3 - j) % 8)) → post 1 (nI n, a, py, tr)) (h0 : ¬ tj_P a pl n c → ∀ tr : Nat → Int32, post 0 (nI n, a, py, tr)) : ∀ d j, j + d = 4 → ∀ tr : Nat → Int32, (∀ q, q < j → tr q = nI (c / 8 ^ (3 - q) % 8)) → (∀ q, q < j → c / 8 ^ (3 - q) % 8 ≠ 0 → tj_st pl (3 * n) (3 - q) = true) → wY_solves_2 post (nI c) (nI n) (d + 1) (nI j) a py tr := by
  have hn := R.1
  intro d
  induction d with
  | zero =>
    intro j hj tr htr hst
    have e : j = 4 := by omega
    rw [e] at htr hst ⊢
    refine br_t (nI_le (a := 4) (b := 4) (by omega) (by omega)) ⟨n + 1, tj_ySolLoop R htr ?_ (fun w => h1 w tr htr) (fun w => h0 w tr) n 0 (by omega) (fun k hk => absurd hk (Nat.not_lt_zero k))⟩
    intro t ht hd
    have e2 : 3 - (3 - t) = t := by omega
    have h := hst (3 - t) (by omega)
    rw [e2] at h
    exact h hd
  | succ d ih =>
    intro j hj tr htr hst
    have hj4 : j < 4 := by omega
    have vj : vp_in (nI j) 4 := vp_in_nI hj4 (by omega)
    have hD : c / 8 ^ (3 - j) % 8 < 8 := Nat.mod_lt _ (by decide)
    have ht2 : ∀ q, q < j + 1 → upd tr j (nI (c / 8 ^ (3 - j) % 8)) q = nI (c / 8 ^ (3 - q) % 8) := by
      intro q hq
      rcases Nat.lt_or_ge q j with w | w
      · rw [pk_un (by omega)]
        exact htr q w
      · have e : q = j := by omega
        rw [e, pk_us]
    refine br_f (nI_ge (b := 4) hj4 (by omega)) ⟨vj, ?_⟩
    rw [tj_sh9 j hj4, tj_digit (by omega) hc, nI_clamp (by omega)]
    refine nm_e ⟨vj, ?_⟩
    rw [pk_us]
    by_cases z : c / 8 ^ (3 - j) % 8 = 0
    · refine br_t (by rw [z]; decide) (nm_r (nI_1 j) (ih (j + 1) (by omega) _ ht2 ?_))
      intro q hq hd
      rcases Nat.lt_or_ge q j with w | w
      · exact hst q w hd
      · have e : q = j := by omega
        rw [e] at hd
        exact absurd z hd
    · refine br_f (nI_nle (by omega) (by omega)) ?_
      refine tj_yStands R hj4 (fun hs => br_f tj_10 (nm_r (nI_1 j) (ih (j + 1) (by omega) _ ht2 ?_))) (fun hs => br_t rfl (h0 (fun w => ?_) _))
      · intro q hq hd
        rcases Nat.lt_or_ge q j with w | w
        · exact hst q w hd
        · have e : q = j := by omega
          rw [e]
          exact hs
      · have h := w.1 (3 - j) (by omega) z
        rw [hs] at h
        exact absurd h (by decide)
theorem tj_ySol {post : Int32 → SY → Prop} {a ps pp po py tr : Nat → Int32} {pl : Nat → Nat} {n c : Nat} (R : tj_R pl n ps pp po py) (hc : c < 4096) (h1 : tj_P a pl n c → ∀ tr : Nat → Int32, (∀ j, j < 4 → tr j = nI (c / 8 ^ (3 - j) % 8)) → post 1 (nI n, a, py, tr)) (h0 : ¬ tj_P a pl n c → ∀ tr : Nat → Int32, post 0 (nI n, a, py, tr)) : wpY_solves post (nI n, a, py, tr) (nI c) := by
  unfold wpY_solves
  exact ⟨5, tj_ySolves1 R hc h1 h0 4 0 (by omega) tr (fun q hq => absurd hq (Nat.not_lt_zero q)) (fun q hq => absurd hq (Nat.not_lt_zero q))⟩
theorem tj_yAgr {post : Int32 → Prop} {x : Int32} {j : Nat} (h1 : tj_A x j → post 1) (h0 : ¬ tj_A x j → post 0) : wpY_agrees post x (nI j) := by
  unfold wpY_agrees
  refine tj_yOut (fun hn => br_t rfl ?_) (fun hn => br_f tj_10 (h1 (Or.inl hn)))
  by_cases z : x = nI j
  · exact br_t z (h1 (Or.inr z))
  · exact br_f z (h0 fun w => w.elim (fun q => q hn) z)
