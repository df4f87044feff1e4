/-! ===== what both sides ask of an int ===== -/
def tj_N (x : Int32) : Prop := ¬ x < 0 ∧ ¬ 7 < x
def tj_V (x : Int32) : Prop := ¬ x < -4 ∧ x < 0
def tj_L (x : Int32) : Prop := ¬ x < -4 ∧ ¬ 7 < x
def tj_H (a : Nat → Int32) (s p o : Int32) : Prop := ∃ i j k : Nat, i < 8 ∧ j < 8 ∧ k < 8 ∧ s = nI i ∧ p = nI j ∧ o = nI k ∧ ¬ a (64 * i + 8 * j + k) = 0
def tj_S (pl : Nat → Nat) (n : Nat) (x : Int32) : Prop := ∃ t, t < 4 ∧ x = tj_pI t ∧ tj_st pl (3 * n) t = true
def tj_A (x : Int32) (j : Nat) : Prop := ¬ tj_N x ∨ x = nI j
theorem tj_N_of {x : Int32} (h : tj_N x) : ∃ j, j < 8 ∧ x = nI j := tj_num h.1 h.2
theorem tj_N_nI {j : Nat} (h : j < 8) : tj_N (nI j) := ⟨tj_num_ge h, tj_num_le h⟩
theorem tj_L_of {x : Int32} (h : tj_L x) : ∃ t, t < 12 ∧ x = tj_pI t := tj_of h.1 h.2
theorem tj_L_pI {t : Nat} (h : t < 12) : tj_L (tj_pI t) := ⟨(tj_rng t h).1, (tj_rng t h).2.2.1⟩
theorem tj_V_pI {t : Nat} (h : t < 4) : tj_V (tj_pI t) := ⟨(tj_neg t h).2.1, (tj_neg t h).1⟩
theorem tj_V_not {t : Nat} (h : 4 ≤ t) (h2 : t < 12) : ¬ tj_V (tj_pI t) := by
  rw [tj_pos h]
  exact fun z => nI_pos (by omega) z.2
theorem tj_V_of {x : Int32} (h : tj_V x) : ∃ t, t < 4 ∧ x = tj_pI t := by
  obtain ⟨t, ht, rfl⟩ := tj_of (x := x) h.1 (by
    have h2 := h.2
    rw [Int32.lt_iff_toInt_lt] at h2 ⊢
    have e1 : (0 : Int32).toInt = 0 := by decide
    have e2 : (7 : Int32).toInt = 7 := by decide
    rw [e1] at h2
    rw [e2]
    omega)
  rcases Nat.lt_or_ge t 4 with h4 | h4
  · exact ⟨t, h4, rfl⟩
  · exact absurd h (tj_V_not h4 ht)
theorem tj_NV {x : Int32} (h : tj_L x) (hn : ¬ tj_N x) : tj_V x := by
  refine ⟨h.1, ?_⟩
  by_cases z : x < 0
  · exact z
  · exact absurd ⟨z, h.2⟩ hn
theorem tj_N_L {x : Int32} (h : tj_N x) : tj_L x := by
  obtain ⟨j, hj, rfl⟩ := tj_N_of h
  have e : tj_pI (j + 4) = nI j := tj_pos (t := j + 4) (by omega)
  rw [← e]
  exact tj_L_pI (by omega)
theorem tj_V_L {x : Int32} (h : tj_V x) : tj_L x := by
  obtain ⟨t, ht, rfl⟩ := tj_V_of h
  exact tj_L_pI (by omega)
theorem tj_H_nI {a : Nat → Int32} {s p o : Nat} (hs : s < 8) (hp : p < 8) (ho : o < 8) : tj_H a (nI s) (nI p) (nI o) ↔ ¬ a (64 * s + 8 * p + o) = 0 := by
  constructor
  · rintro ⟨i, j, k, hi, hj, hk, e1, e2, e3, h⟩
    rw [nI_eq (by omega) (by omega)] at e1 e2 e3
    subst e1 e2 e3
    exact h
  · exact fun h => ⟨s, p, o, hs, hp, ho, rfl, rfl, rfl, h⟩
theorem tj_H_N {a : Nat → Int32} {s p o : Int32} (h : tj_H a s p o) : tj_N s ∧ tj_N p ∧ tj_N o := by
  obtain ⟨i, j, k, hi, hj, hk, rfl, rfl, rfl, _⟩ := h
  exact ⟨tj_N_nI hi, tj_N_nI hj, tj_N_nI hk⟩
theorem tj_S_pI {pl : Nat → Nat} {n t : Nat} (ht : t < 4) : tj_S pl n (tj_pI t) ↔ tj_st pl (3 * n) t = true := by
  constructor
  · rintro ⟨t', ht', e, h⟩
    have e2 : (tj_pI t).toInt = (tj_pI t').toInt := by rw [e]
    rw [tj_pI_toInt (by omega), tj_pI_toInt (by omega)] at e2
    have : t = t' := by omega
    subst this
    exact h
  · exact fun h => ⟨t, ht, rfl, h⟩
theorem tj_S_V {pl : Nat → Nat} {n : Nat} {x : Int32} (h : tj_S pl n x) : tj_V x := by
  obtain ⟨t, ht, rfl, _⟩ := h
  exact tj_V_pI ht
theorem tj_vb0 : vp_nar .boolean 0 = 0 := by decide
theorem tj_vb1 : vp_nar .boolean 1 = 1 := by decide
