/-! ===== the component's own methods, each with a general post ===== -/
theorem tj_10 : ¬ (1 : Int32) = 0 := by decide
theorem tj_xNum {post : Int32 → Prop} {x : Int32} (h1 : tj_N x → post 1) (h0 : ¬ tj_N x → post 0) : wpX_isNumber post x := by
  unfold wpX_isNumber
  by_cases ha : x < 0
  · exact br_t ha (h0 fun z => z.1 ha)
  · refine br_f ha ?_
    by_cases hb : 7 < x
    · exact br_t hb (h0 fun z => z.2 hb)
    · exact br_f hb (h1 ⟨ha, hb⟩)
theorem tj_xVar {post : Int32 → Prop} {x : Int32} (h1 : tj_V x → post 1) (h0 : ¬ tj_V x → post 0) : wpX_isVariable post x := by
  unfold wpX_isVariable
  by_cases ha : x < -4
  · exact br_t ha (h0 fun z => z.1 ha)
  · refine br_f ha ?_
    by_cases hb : 0 ≤ x
    · exact br_t hb (h0 fun z => Int32.not_le.mpr z.2 hb)
    · exact br_f hb (h1 ⟨ha, Int32.not_le.mp hb⟩)
theorem tj_xPlace {post : Int32 → Prop} {x : Int32} (h1 : tj_L x → post 1) (h0 : ¬ tj_L x → post 0) : wpX_isPlace post x := by
  unfold wpX_isPlace
  refine tj_xNum (fun hn => br_f tj_10 (h1 (tj_N_L hn))) (fun hn => br_t rfl ?_)
  exact tj_xVar (fun hv => br_f tj_10 (h1 (tj_V_L hv))) (fun hv => br_t rfl (h0 fun z => hv (tj_NV z hn)))
theorem tj_xFact {post : Int32 → Prop} {s p o : Int32} (h1 : tj_N s → tj_N p → tj_N o → post 1) (h0 : ¬ (tj_N s ∧ tj_N p ∧ tj_N o) → post 0) : wpX_isFact post s p o := by
  unfold wpX_isFact
  refine tj_xNum (fun hs => br_f tj_10 ?_) (fun hs => br_t rfl (h0 fun z => hs z.1))
  refine tj_xNum (fun hp => br_f tj_10 ?_) (fun hp => br_t rfl (h0 fun z => hp z.2.1))
  exact tj_xNum (fun ho => br_f tj_10 (h1 hs hp ho)) (fun ho => br_t rfl (h0 fun z => ho z.2.2))
theorem tj_xIdx {post : Int32 → Prop} {s p o : Nat} (hs : s < 8) (hp : p < 8) (ho : o < 8) (h : post (nI (64 * s + 8 * p + o))) : wpX_factIndex post (nI s) (nI p) (nI o) := by
  unfold wpX_factIndex
  rw [tj_fi s hs p hp o ho]
  exact h
theorem tj_xHeld {post : Int32 → Prop} {fc pc sb : Int32} {a ps pp po : Nat → Int32} {s p o : Int32} (h1 : tj_H a s p o → post 1) (h0 : ¬ tj_H a s p o → post 0) : wpX_isHeld post (fc, pc, sb, a, ps, pp, po) s p o := by
  unfold wpX_isHeld
  dsimp only
  refine tj_xFact (fun hs hp ho => br_f tj_10 ?_) (fun hn => br_t rfl (h0 fun z => hn (tj_H_N z)))
  obtain ⟨i, hi, rfl⟩ := tj_N_of hs
  obtain ⟨j, hj, rfl⟩ := tj_N_of hp
  obtain ⟨k, hk, rfl⟩ := tj_N_of ho
  have hx : 64 * i + 8 * j + k < 512 := by omega
  refine tj_xIdx hi hj hk ⟨vp_in_nI hx (by omega), ?_⟩
  rw [nI_clamp (by omega)]
  by_cases z : a (64 * i + 8 * j + k) = 0
  · exact br_t z (h0 fun w => (tj_H_nI hi hj hk).mp w z)
  · exact br_f z (h1 ((tj_H_nI hi hj hk).mpr z))
theorem tj_xAt {post : Int32 → Prop} {t c : Nat} (ht : t < 12) (hc : c < 4096) (h : post (nI (tj_pv t c))) : wpX_numberAt post (tj_pI t) (nI c) := by
  unfold wpX_numberAt
  refine tj_xVar (fun hv => br_f tj_10 ?_) (fun hv => br_t rfl ?_)
  · rcases Nat.lt_or_ge t 4 with h4 | h4
    · show post ((nI c >>> (((tj_pI t - (-4)) * 3) &&& 31)) &&& 7)
      rw [tj_shift t h4, tj_digit h4 hc]
      rw [tj_pv_v h4] at h
      exact h
    · exact absurd hv (tj_V_not h4 ht)
  · rcases Nat.lt_or_ge t 4 with h4 | h4
    · exact absurd (tj_V_pI h4) hv
    · rw [tj_pv_n h4] at h
      rw [tj_pos h4]
      exact h
theorem tj_xBits {post : Int32 → Prop} {t : Nat} (ht : t < 12) (h : post (tj_bt t)) : wpX_bitsOfPlace post (tj_pI t) := by
  unfold wpX_bitsOfPlace
  refine tj_xVar (fun hv => br_f tj_10 ?_) (fun hv => br_t rfl ?_)
  · rcases Nat.lt_or_ge t 4 with h4 | h4
    · show post ((7 : Int32) <<< (((tj_pI t - (-4)) * 3) &&& 31))
      rw [tj_shift t h4, tj_bt_v t h4]
      exact h
    · exact absurd hv (tj_V_not h4 ht)
  · rcases Nat.lt_or_ge t 4 with h4 | h4
    · exact absurd (tj_V_pI h4) hv
    · rw [tj_bt_n h4] at h
      exact h
theorem tj_xStands {post : Int32 → Prop} {fc pc : Int32} {a ps pp po : Nat → Int32} {pl : Nat → Nat} {n : Nat} {x : Int32} (h1 : tj_S pl n x → post 1) (h0 : ¬ tj_S pl n x → post 0) : wpX_stands post (fc, pc, tj_sb (tj_st pl (3 * n)), a, ps, pp, po) x := by
  unfold wpX_stands
  dsimp only
  by_cases hv : tj_V x
  · obtain ⟨t, ht, rfl⟩ := tj_V_of hv
    refine tj_xBits (by omega) ?_
    by_cases z : (tj_sb (tj_st pl (3 * n)) &&& tj_bt t) = 0
    · refine br_t z (h0 ?_)
      rw [tj_S_pI ht, (tj_stand _ ht).mp z]
      decide
    · refine br_f z (h1 ((tj_S_pI ht).mpr ?_))
      cases hb : tj_st pl (3 * n) t with
      | false => exact absurd ((tj_stand _ ht).mpr hb) z
      | true => rfl
  · unfold wpX_bitsOfPlace
    exact tj_xVar (fun w => absurd w hv) (fun _ => br_t rfl (br_t Int32.and_zero (h0 fun w => hv (tj_S_V w))))
/-! ===== a solution, on the component's side ===== -/
def tj_R (pl : Nat → Nat) (n : Nat) (ps pp po py : Nat → Int32) : Prop := n ≤ 4 ∧ (∀ j, pl j < 12) ∧ (∀ i, i < n → ps i = tj_pI (pl (3 * i)) ∧ pp i = tj_pI (pl (3 * i + 1)) ∧ po i = tj_pI (pl (3 * i + 2))) ∧ ∀ j, j < 3 * n → py j = tj_pI (pl j)
theorem tj_xSolLoop {post : Int32 → Prop} {fc : Int32} {a ps pp po py : Nat → Int32} {pl : Nat → Nat} {n c : Nat} (R : tj_R pl n ps pp po py) (hc : c < 4096) (hf : ∀ t, t < 4 → c / 8 ^ t % 8 ≠ 0 → tj_st pl (3 * n) t = true) (h1 : tj_P a pl n c → post 1) (h0 : ¬ tj_P a pl n c → post 0) : ∀ d i, i + d = n → (∀ k, k < i → ¬ a (tj_ix pl c k) = 0) → wX_isSolution_15 post (nI c) fc (nI n) (tj_sb (tj_st pl (3 * n))) a ps pp po (d + 1) (nI i) := by
  obtain ⟨hn, hpl, hx, _⟩ := R
  intro d
  induction d with
  | zero =>
    intro i hi hk
    exact br_t (nI_le (by omega) (by omega)) (h1 ⟨hf, fun k hkn => hk k (by omega)⟩)
  | succ d ih =>
    intro i hi hk
    have hin : i < n := by omega
    obtain ⟨e1, e2, e3⟩ := hx i hin
    have vi : vp_in (nI i) 4 := vp_in_nI (by omega) (by omega)
    have ci : (nI i).toNatClampNeg = i := nI_clamp (by omega)
    refine br_f (nI_ge hin (by omega)) ⟨vi, ?_⟩
    rw [ci, e1]
    refine tj_xAt (hpl _) hc ⟨vi, ?_⟩
    rw [e2]
    refine tj_xAt (hpl _) hc ⟨vi, ?_⟩
    rw [e3]
    refine tj_xAt (hpl _) hc ?_
    have l1 := tj_pv_lt (c := c) (hpl (3 * i))
    have l2 := tj_pv_lt (c := c) (hpl (3 * i + 1))
    have l3 := tj_pv_lt (c := c) (hpl (3 * i + 2))
    refine tj_xHeld (fun hh => br_f tj_10 (nm_r (nI_1 i) (ih (i + 1) (by omega) ?_))) (fun hh => br_t rfl (h0 fun z => hh ((tj_H_nI l1 l2 l3).mpr (z.2 i hin))))
    intro k hk'
    rcases Nat.lt_or_ge k i with w | w
    · exact hk k w
    · have e : k = i := by omega
      rw [e]
      exact (tj_H_nI l1 l2 l3).mp hh
theorem tj_xSol {post : Int32 → Prop} {fc : Int32} {a ps pp po py : Nat → Int32} {pl : Nat → Nat} {n c : Nat} (R : tj_R pl n ps pp po py) (hc : c < 4096) (h1 : tj_P a pl n c → post 1) (h0 : ¬ tj_P a pl n c → post 0) : wpX_isSolution post (fc, nI n, tj_sb (tj_st pl (3 * n)), a, ps, pp, po) (nI c) := by
  unfold wpX_isSolution
  dsimp only
  by_cases z : (nI c &&& (tj_sb (tj_st pl (3 * n)) ^^^ (-1))) = 0
  · exact br_t z ⟨n + 1, tj_xSolLoop R hc ((tj_free _ hc).mp z) h1 h0 n 0 (by omega) (fun k hk => absurd hk (Nat.not_lt_zero k))⟩
  · exact br_f z (h0 fun w => z ((tj_free _ hc).mpr w.1))
theorem tj_xAdm {post : Int32 → Prop} {x : Int32} {j : Nat} (h1 : tj_A x j → post 1) (h0 : ¬ tj_A x j → post 0) : wpX_admits post x (nI j) := by
  unfold wpX_admits
  refine tj_xNum (fun hn => br_f tj_10 ?_) (fun hn => br_t rfl (h1 (Or.inl hn)))
  by_cases z : x = nI j
  · exact br_t z (h1 (Or.inr z))
  · exact br_f z (h0 fun w => w.elim (fun q => q hn) z)
theorem tj_xAgr {post : Int32 → Prop} {s p o : Int32} {i : Nat} (hi : i < 512) (h1 : tj_A s (i / 64) → tj_A p (i / 8 % 8) → tj_A o (i % 8) → post 1) (h0 : ¬ (tj_A s (i / 64) ∧ tj_A p (i / 8 % 8) ∧ tj_A o (i % 8)) → post 0) : wpX_agrees post (nI i) s p o := by
  unfold wpX_agrees
  refine nm_r (tj_i64 hi) (nm_r (tj_i8 hi) (nm_r (tj_i1 hi) ?_))
  refine tj_xAdm (fun hs => br_f tj_10 ?_) (fun hs => br_t rfl (h0 fun z => hs z.1))
  refine tj_xAdm (fun hp => br_f tj_10 ?_) (fun hp => br_t rfl (h0 fun z => hp z.2.1))
  exact tj_xAdm (fun ho => br_f tj_10 (h1 hs hp ho)) (fun ho => br_t rfl (h0 fun z => ho z.2.2))
