/-! ===== solutions ===== -/
theorem tj_4k {c : Nat} (h : c < 4096) : ¬ (4096 : Int32) ≤ nI c := nI_ge (b := 4096) h (by omega)
theorem tj_4e : (4096 : Int32) ≤ nI 4096 := nI_le (a := 4096) (b := 4096) (by omega) (by omega)
theorem tj_loopSol {fc : Int32} {a ps pp po py : Nat → Int32} {pl : Nat → Nat} {n : Nat} (R : tj_R pl n ps pp po py) : ∀ d c b, c + d = 4096 → ∃ r : Int32, (∀ post : Int32 → Prop, post r → wX_solutions_4 post fc (nI n) (tj_sb (tj_st pl (3 * n))) a ps pp po (d + 1) (nI b) (nI c)) ∧ (∀ (post : Int32 → SY → Prop) (tr : Nat → Int32), (∀ tr' : Nat → Int32, post r (nI n, a, py, tr')) → wY_solutions_4 post (d + 1) (nI b) (nI c) (nI n) a py tr) := by
  intro d
  induction d with
  | zero =>
    intro c b hc
    have e : c = 4096 := by omega
    rw [e]
    exact ⟨nI b, fun post h => br_t tj_4e h, fun post tr h => br_t tj_4e (h tr)⟩
  | succ d ih =>
    intro c b hc
    have hc4 : c < 4096 := by omega
    by_cases hP : tj_P a pl n c
    · obtain ⟨r, hX, hY⟩ := ih (c + 1) (b + 1) (by omega)
      refine ⟨r, fun post h => br_f (tj_4k hc4) ?_, fun post tr h => br_f (tj_4k hc4) ?_⟩
      · exact tj_xSol R hc4 (fun _ => br_f tj_10 (nm_r (nI_1 b) (nm_r (nI_1 c) (hX post h)))) (fun w => absurd hP w)
      · exact tj_ySol R hc4 (fun _ tr' _ => br_f tj_10 (nm_r (nI_1 b) (nm_r (nI_1 c) (hY post tr' h)))) (fun w => absurd hP w)
    · obtain ⟨r, hX, hY⟩ := ih (c + 1) b (by omega)
      refine ⟨r, fun post h => br_f (tj_4k hc4) ?_, fun post tr h => br_f (tj_4k hc4) ?_⟩
      · exact tj_xSol R hc4 (fun w => absurd w hP) (fun _ => br_t rfl (nm_r (nI_1 c) (hX post h)))
      · exact tj_ySol R hc4 (fun w => absurd w hP) (fun _ tr' => br_t rfl (nm_r (nI_1 c) (hY post tr' h)))
/-! ===== solution ===== -/
theorem tj_tv {t c : Nat} {tr : Nat → Int32} (ht : t < 4) (htr : ∀ j, j < 4 → tr j = nI (c / 8 ^ (3 - j) % 8)) : vp_in (-1 - tj_pI t) 4 ∧ tr (-1 - tj_pI t).toNatClampNeg = nI (tj_pv t c) := by
  have e : 3 - (3 - t) = t := by omega
  rw [tj_var t ht]
  refine ⟨vp_in_nI (by omega) (by omega), ?_⟩
  rw [nI_clamp (by omega), htr _ (by omega), e, tj_pv_v ht]
theorem tj_loopOne {fc k : Int32} {a ps pp po py : Nat → Int32} {pl : Nat → Nat} {n t : Nat} (R : tj_R pl n ps pp po py) (ht : t < 4) : ∀ d c b, c + d = 4096 → b ≤ c → ∃ r : Int32, (k < 0 → r = -1) ∧ (∀ post : Int32 → Prop, post r → wX_solution_19 post k (tj_pI t) fc (nI n) (tj_sb (tj_st pl (3 * n))) a ps pp po (d + 1) (nI b) (nI c)) ∧ (∀ (post : Int32 → SY → Prop) (tr : Nat → Int32), (∀ tr' : Nat → Int32, post r (nI n, a, py, tr')) → wY_solution_15 post k (tj_pI t) (d + 1) (nI b) (nI c) (nI n) a py tr) := by
  intro d
  induction d with
  | zero =>
    intro c b hc hb
    have e : c = 4096 := by omega
    rw [e]
    exact ⟨-1, fun _ => rfl, fun post h => br_t tj_4e h, fun post tr h => br_t tj_4e (h tr)⟩
  | succ d ih =>
    intro c b hc hb
    have hc4 : c < 4096 := by omega
    by_cases hP : tj_P a pl n c
    · by_cases hk : nI b = k
      · refine ⟨nI (tj_pv t c), fun z => ?_, fun post h => br_f (tj_4k hc4) ?_, fun post tr h => br_f (tj_4k hc4) ?_⟩
        · rw [← hk] at z
          exact absurd z (nI_pos (by omega))
        · exact tj_xSol R hc4 (fun _ => br_f tj_10 (br_t hk (tj_xAt (by omega) hc4 h))) (fun w => absurd hP w)
        · refine tj_ySol R hc4 (fun _ tr' htr => br_f tj_10 (br_t hk ⟨(tj_tv ht htr).1, ?_⟩)) (fun w => absurd hP w)
          rw [(tj_tv ht htr).2]
          exact h tr'
      · obtain ⟨r, h0, hX, hY⟩ := ih (c + 1) (b + 1) (by omega) (by omega)
        refine ⟨r, h0, fun post h => br_f (tj_4k hc4) ?_, fun post tr h => br_f (tj_4k hc4) ?_⟩
        · exact tj_xSol R hc4 (fun _ => br_f tj_10 (br_f hk (nm_r (nI_1 b) (nm_r (nI_1 c) (hX post h))))) (fun w => absurd hP w)
        · exact tj_ySol R hc4 (fun _ tr' _ => br_f tj_10 (br_f hk (nm_r (nI_1 b) (nm_r (nI_1 c) (hY post tr' h))))) (fun w => absurd hP w)
    · obtain ⟨r, h0, hX, hY⟩ := ih (c + 1) b (by omega) (by omega)
      refine ⟨r, h0, fun post h => br_f (tj_4k hc4) ?_, fun post tr h => br_f (tj_4k hc4) ?_⟩
      · exact tj_xSol R hc4 (fun w => absurd w hP) (fun _ => br_t rfl (nm_r (nI_1 c) (hX post h)))
      · exact tj_ySol R hc4 (fun w => absurd w hP) (fun _ tr' => br_t rfl (nm_r (nI_1 c) (hY post tr' h)))
/-! ===== with ===== -/
def tj_T (a : Nat → Int32) (pl : Nat → Nat) (n t : Nat) (x : Int32) (c : Nat) : Prop := ∃ c', c ≤ c' ∧ c' < 4096 ∧ tj_P a pl n c' ∧ nI (tj_pv t c') = x
theorem tj_T_end {a : Nat → Int32} {pl : Nat → Nat} {n t : Nat} {x : Int32} : ¬ tj_T a pl n t x 4096 := by
  rintro ⟨c', h1, h2, _⟩
  omega
theorem tj_T_s {a : Nat → Int32} {pl : Nat → Nat} {n t c : Nat} {x : Int32} (h : tj_T a pl n t x (c + 1)) : tj_T a pl n t x c := by
  obtain ⟨c', h1, h2⟩ := h
  exact ⟨c', by omega, h2⟩
theorem tj_T_n {a : Nat → Int32} {pl : Nat → Nat} {n t c : Nat} {x : Int32} (hn : ¬ (tj_P a pl n c ∧ nI (tj_pv t c) = x)) : tj_T a pl n t x c ↔ tj_T a pl n t x (c + 1) := by
  refine ⟨?_, tj_T_s⟩
  rintro ⟨c', h1, h2, h3⟩
  rcases Nat.lt_or_ge c c' with w | w
  · exact ⟨c', w, h2, h3⟩
  · have e : c' = c := by omega
    rw [e] at h3
    exact absurd h3 hn
theorem tj_loopWith {fc x : Int32} {a ps pp po py : Nat → Int32} {pl : Nat → Nat} {n t : Nat} (R : tj_R pl n ps pp po py) (ht : t < 4) : ∀ d c b, c + d = 4096 → ∃ m : Nat, b ≤ m ∧ m ≤ b + d ∧ (b < m ↔ tj_T a pl n t x c) ∧ (∀ post : Int32 → Prop, post (nI m) → wX_with_15 post (tj_pI t) x fc (nI n) (tj_sb (tj_st pl (3 * n))) a ps pp po (d + 1) (nI b) (nI c)) ∧ (∀ (post : Int32 → SY → Prop) (tr : Nat → Int32), (∀ tr' : Nat → Int32, post (nI m) (nI n, a, py, tr')) → wY_with_15 post (tj_pI t) x (d + 1) (nI b) (nI c) (nI n) a py tr) := by
  intro d
  induction d with
  | zero =>
    intro c b hc
    have e : c = 4096 := by omega
    rw [e]
    exact ⟨b, Nat.le_refl b, by omega, ⟨fun z => absurd z (Nat.lt_irrefl b), fun z => absurd z tj_T_end⟩, fun post h => br_t tj_4e h, fun post tr h => br_t tj_4e (h tr)⟩
  | succ d ih =>
    intro c b hc
    have hc4 : c < 4096 := by omega
    have ht12 : t < 12 := by omega
    by_cases hx : nI (tj_pv t c) = x
    · by_cases hP : tj_P a pl n c
      · obtain ⟨m, m1, m2, m3, hX, hY⟩ := ih (c + 1) (b + 1) (by omega)
        refine ⟨m, by omega, by omega, ⟨fun _ => ⟨c, Nat.le_refl c, hc4, hP, hx⟩, fun _ => by omega⟩, fun post h => br_f (tj_4k hc4) ?_, fun post tr h => br_f (tj_4k hc4) ?_⟩
        · exact tj_xAt ht12 hc4 (br_t hx (tj_xSol R hc4 (fun _ => br_f tj_10 (nm_r (nI_1 b) (nm_r (nI_1 c) (hX post h)))) (fun w => absurd hP w)))
        · exact tj_ySol R hc4 (fun _ tr' htr => br_f tj_10 ⟨(tj_tv ht htr).1, br_t ((tj_tv ht htr).2.trans hx) (nm_r (nI_1 b) (nm_r (nI_1 c) (hY post tr' h)))⟩) (fun w => absurd hP w)
      · obtain ⟨m, m1, m2, m3, hX, hY⟩ := ih (c + 1) b (by omega)
        refine ⟨m, by omega, by omega, m3.trans (tj_T_n (fun w => hP w.1)).symm, fun post h => br_f (tj_4k hc4) ?_, fun post tr h => br_f (tj_4k hc4) ?_⟩
        · exact tj_xAt ht12 hc4 (br_t hx (tj_xSol R hc4 (fun w => absurd w hP) (fun _ => br_t rfl (nm_r (nI_1 c) (hX post h)))))
        · exact tj_ySol R hc4 (fun w => absurd w hP) (fun _ tr' => br_t rfl (nm_r (nI_1 c) (hY post tr' h)))
    · obtain ⟨m, m1, m2, m3, hX, hY⟩ := ih (c + 1) b (by omega)
      refine ⟨m, by omega, by omega, m3.trans (tj_T_n (fun w => hx w.2)).symm, fun post h => br_f (tj_4k hc4) ?_, fun post tr h => br_f (tj_4k hc4) ?_⟩
      · exact tj_xAt ht12 hc4 (br_f hx (nm_r (nI_1 c) (hX post h)))
      · exact tj_ySol R hc4 (fun _ tr' htr => br_f tj_10 ⟨(tj_tv ht htr).1, br_f (fun w => hx ((tj_tv ht htr).2.symm.trans w)) (nm_r (nI_1 c) (hY post tr' h))⟩) (fun _ tr' => br_t rfl (nm_r (nI_1 c) (hY post tr' h)))
/-! ===== values ===== -/
theorem tj_loopSeen {fc : Int32} {a ps pp po py : Nat → Int32} {pl : Nat → Nat} {n t : Nat} (R : tj_R pl n ps pp po py) (ht : t < 4) : ∀ d c (s : Int32), c + d = 4096 → ∃ s' : Int32, (∀ i, i < 8 → (bt s' i = true ↔ (bt s i = true ∨ tj_T a pl n t (nI i) c))) ∧ ∀ post : Int32 → Prop, wpX_countNumbersIn post s' → wX_values_14 post (tj_pI t) fc (nI n) (tj_sb (tj_st pl (3 * n))) a ps pp po (d + 1) s (nI c) := by
  intro d
  induction d with
  | zero =>
    intro c s hc
    have e : c = 4096 := by omega
    rw [e]
    exact ⟨s, fun i _ => ⟨Or.inl, fun z => z.elim id (fun w => absurd w tj_T_end)⟩, fun post h => br_t tj_4e h⟩
  | succ d ih =>
    intro c s hc
    have hc4 : c < 4096 := by omega
    have ht12 : t < 12 := by omega
    have hv : tj_pv t c < 8 := tj_pv_lt ht12
    by_cases hP : tj_P a pl n c
    · obtain ⟨s', hb, hX⟩ := ih (c + 1) (s ||| ((1 : Int32) <<< (nI (tj_pv t c) &&& 31))) (by omega)
      refine ⟨s', fun i hi => ?_, fun post h => br_f (tj_4k hc4) ?_⟩
      · rw [hb i hi, b_or, tj_set _ hv i hi, Bool.or_eq_true, beq_iff_eq]
        constructor
        · rintro ((w | w) | w)
          · exact Or.inl w
          · exact Or.inr ⟨c, Nat.le_refl c, hc4, hP, by rw [w]⟩
          · exact Or.inr (tj_T_s w)
        · rintro (w | w)
          · exact Or.inl (Or.inl w)
          · by_cases z : tj_pv t c = i
            · exact Or.inl (Or.inr z)
            · refine Or.inr ((tj_T_n (fun q => z ?_)).mp w)
              have q2 := q.2
              rw [nI_eq (by omega) (by omega)] at q2
              exact q2
      · exact tj_xSol R hc4 (fun _ => br_f tj_10 (tj_xAt ht12 hc4 (nm_e (nm_r (nI_1 c) (hX post h))))) (fun w => absurd hP w)
    · obtain ⟨s', hb, hX⟩ := ih (c + 1) s (by omega)
      refine ⟨s', fun i hi => ?_, fun post h => br_f (tj_4k hc4) ?_⟩
      · rw [hb i hi, tj_T_n (c := c) (fun q => hP q.1)]
      · exact tj_xSol R hc4 (fun w => absurd w hP) (fun _ => br_t rfl (nm_r (nI_1 c) (hX post h)))
theorem tj_loopNum {s : Int32} {a py : Nat → Int32} {n t : Nat} (T : Nat → Prop) (hs : ∀ i, i < 8 → (bt s i = true ↔ T i)) (hW : ∀ i, i < 8 → ∃ m : Nat, m ≤ 4096 ∧ (0 < m ↔ T i) ∧ ∀ (post : Int32 → SY → Prop) (tr : Nat → Int32), (∀ tr' : Nat → Int32, post (nI m) (nI n, a, py, tr')) → wpY_with post (nI n, a, py, tr) (tj_pI t) (nI i)) : ∀ d i b, i + d = 8 → ∃ r : Int32, (∀ post : Int32 → Prop, post r → wX_countNumbersIn_4 post s (d + 1) (nI b) (nI i)) ∧ (∀ (post : Int32 → SY → Prop) (tr : Nat → Int32), (∀ tr' : Nat → Int32, post r (nI n, a, py, tr')) → wY_values_14 post (tj_pI t) (d + 1) (nI b) (nI i) (nI n) a py tr) := by
  intro d
  induction d with
  | zero =>
    intro i b hi
    have e : i = 8 := by omega
    rw [e]
    exact ⟨nI b, fun post h => br_t (nI_lt (a := 7) (b := 8) (by omega) (by omega)) h, fun post tr h => br_t (nI_le (a := 8) (b := 8) (by omega) (by omega)) (h tr)⟩
  | succ d ih =>
    intro i b hi
    have hi8 : i < 8 := by omega
    have hy : ¬ (8 : Int32) ≤ nI i := nI_ge (b := 8) hi8 (by omega)
    obtain ⟨m, hm, hT, hw⟩ := hW i hi8
    by_cases hTi : T i
    · obtain ⟨r, hX, hY⟩ := ih (i + 1) (b + 1) (by omega)
      have hb : ¬ (s &&& ((1 : Int32) <<< (nI i &&& 31))) = 0 := by
        rw [tj_bit s (by omega), (hs i hi8).mpr hTi]
        decide
      refine ⟨r, fun post h => br_f (tj_num_le hi8) (br_f hb (nm_r (nI_1 b) (nm_r (nI_1 i) (hX post h)))), fun post tr h => br_f hy ?_⟩
      exact hw _ tr (fun tr' => br_f (nI_nle (hT.mpr hTi) (by omega)) (nm_r (nI_1 b) (nm_r (nI_1 i) (hY post tr' h))))
    · obtain ⟨r, hX, hY⟩ := ih (i + 1) b (by omega)
      have hb : (s &&& ((1 : Int32) <<< (nI i &&& 31))) = 0 := by
        rw [tj_bit s (by omega)]
        cases z : bt s i with
        | false => rfl
        | true => exact absurd ((hs i hi8).mp z) hTi
      have hm0 : m = 0 := by
        rcases Nat.eq_zero_or_pos m with z | z
        · exact z
        · exact absurd (hT.mp z) hTi
      rw [hm0] at hw
      refine ⟨r, fun post h => br_f (tj_num_le hi8) (br_t hb (nm_r (nI_1 i) (hX post h))), fun post tr h => br_f hy ?_⟩
      exact hw _ tr (fun tr' => br_t (nI_le (a := 0) (b := 0) (by omega) (by omega)) (nm_r (nI_1 i) (hY post tr' h)))
/-! ===== count ===== -/
theorem tj_loopCount {fc pc pd sb s p o : Int32} {a ps pp po py tr : Nat → Int32} : ∀ d i b, i + d = 512 → ∃ r : Int32, (∀ post : Int32 → Prop, post r → wX_count_6 post s p o fc pc sb a ps pp po (d + 1) (nI b) (nI i)) ∧ (∀ post : Int32 → Prop, post r → wY_count_6 post s p o pd a py tr (d + 1) (nI b) (nI i)) := by
  intro d
  induction d with
  | zero =>
    intro i b hi
    have e : i = 512 := by omega
    rw [e]
    exact ⟨nI b, fun post h => br_t (nI_le (a := 512) (b := 512) (by omega) (by omega)) h, fun post h => br_t (nI_le (a := 512) (b := 512) (by omega) (by omega)) h⟩
  | succ d ih =>
    intro i b hi
    have hi5 : i < 512 := by omega
    have hge : ¬ (512 : Int32) ≤ nI i := nI_ge (b := 512) hi5 (by omega)
    have vi : vp_in (nI i) 512 := vp_in_nI hi5 (by omega)
    have ci : (nI i).toNatClampNeg = i := nI_clamp (by omega)
    by_cases z : a i = 0
    · obtain ⟨r, hX, hY⟩ := ih (i + 1) b (by omega)
      refine ⟨r, fun post h => br_f hge ⟨vi, ?_⟩, fun post h => br_f hge ⟨vi, ?_⟩⟩
      · rw [ci]
        exact br_t z (nm_r (nI_1 i) (hX post h))
      · rw [ci]
        exact br_t z (nm_r (nI_1 i) (hY post h))
    · by_cases hA : tj_A s (i / 64) ∧ tj_A p (i / 8 % 8) ∧ tj_A o (i % 8)
      · obtain ⟨r, hX, hY⟩ := ih (i + 1) (b + 1) (by omega)
        refine ⟨r, fun post h => br_f hge ⟨vi, ?_⟩, fun post h => br_f hge ⟨vi, ?_⟩⟩
        · rw [ci]
          refine br_f z (tj_xAgr hi5 (fun _ _ _ => br_f tj_10 (nm_r (nI_1 b) (nm_r (nI_1 i) (hX post h)))) (fun w => absurd hA w))
        · rw [ci, tj_y8 hi5, tj_y1 hi5, tj_y64 hi5]
          refine br_f z ⟨by decide, ?_⟩
          refine tj_yAgr (fun _ => br_f tj_10 ⟨by decide, by decide, ?_⟩) (fun w => absurd hA.1 w)
          refine tj_yAgr (fun _ => br_f tj_10 ⟨by decide, ?_⟩) (fun w => absurd hA.2.1 w)
          exact tj_yAgr (fun _ => br_f tj_10 (nm_r (nI_1 b) (nm_r (nI_1 i) (hY post h)))) (fun w => absurd hA.2.2 w)
      · obtain ⟨r, hX, hY⟩ := ih (i + 1) b (by omega)
        refine ⟨r, fun post h => br_f hge ⟨vi, ?_⟩, fun post h => br_f hge ⟨vi, ?_⟩⟩
        · rw [ci]
          refine br_f z (tj_xAgr hi5 (fun h1 h2 h3 => absurd ⟨h1, h2, h3⟩ hA) (fun _ => br_t rfl (nm_r (nI_1 i) (hX post h))))
        · rw [ci, tj_y8 hi5, tj_y1 hi5, tj_y64 hi5]
          refine br_f z ⟨by decide, ?_⟩
          refine tj_yAgr (fun h1 => br_f tj_10 ⟨by decide, by decide, ?_⟩) (fun _ => br_t rfl (nm_r (nI_1 i) (hY post h)))
          refine tj_yAgr (fun h2 => br_f tj_10 ⟨by decide, ?_⟩) (fun _ => br_t rfl (nm_r (nI_1 i) (hY post h)))
          exact tj_yAgr (fun h3 => absurd ⟨h1, h2, h3⟩ hA) (fun _ => br_t rfl (nm_r (nI_1 i) (hY post h)))
