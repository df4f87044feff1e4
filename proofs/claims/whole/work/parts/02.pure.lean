/-! ===== places by codes: -4 is 0, .., -1 is 3, the number j is j + 4 ===== -/
def tj_pI (t : Nat) : Int32 := nI t - 4
theorem tj_pI_toInt {t : Nat} (h : t < 12) : (tj_pI t).toInt = (t : Int) - 4 := by
  have e : (nI t - nI 4).toInt = (t : Int) - ((4 : Nat) : Int) := pk_sub_toInt (by omega) (by omega)
  exact e
theorem tj_of {x : Int32} (h1 : ¬ x < -4) (h2 : ¬ 7 < x) : ∃ t, t < 12 ∧ x = tj_pI t := by
  rw [Int32.lt_iff_toInt_lt] at h1 h2
  have e1 : (-4 : Int32).toInt = -4 := by decide
  have e2 : (7 : Int32).toInt = 7 := by decide
  rw [e1] at h1
  rw [e2] at h2
  refine ⟨(x.toInt + 4).toNat, by omega, Int32.toInt_inj.mp ?_⟩
  rw [tj_pI_toInt (by omega)]
  omega
theorem tj_num {x : Int32} (h1 : ¬ x < 0) (h2 : ¬ 7 < x) : ∃ j, j < 8 ∧ x = nI j := by
  obtain ⟨j, hj, rfl⟩ := nI_of h1
  refine ⟨j, ?_, rfl⟩
  have h3 : ¬ nI 7 < nI j := h2
  rw [nI_ltI (by omega) hj] at h3
  omega
theorem tj_num_ge {j : Nat} (h : j < 8) : ¬ nI j < 0 := nI_pos (by omega)
theorem tj_num_le {j : Nat} (h : j < 8) : ¬ 7 < nI j := by
  show ¬ nI 7 < nI j
  rw [nI_ltI (by omega) (by omega)]
  omega
theorem tj_neg : ∀ t, t < 4 → tj_pI t < 0 ∧ ¬ tj_pI t < -4 ∧ -4 ≤ tj_pI t ∧ ¬ 0 ≤ tj_pI t := by decide +kernel
theorem tj_pos {t : Nat} (h : 4 ≤ t) : tj_pI t = nI (t - 4) := by
  have e : nI t - nI 4 = nI (t - 4) := pk_sub h
  exact e
theorem tj_rng : ∀ t, t < 12 → ¬ tj_pI t < -4 ∧ -4 ≤ tj_pI t ∧ ¬ 7 < tj_pI t ∧ tj_pI t ≤ 7 := by decide +kernel
theorem tj_shift : ∀ t, t < 4 → (tj_pI t - (-4)) * 3 = nI (3 * t) := by decide +kernel
theorem tj_var : ∀ t, t < 4 → -1 - tj_pI t = nI (3 - t) := by decide +kernel
theorem tj_ne : ∀ t, t < 12 → ∀ j, j < 4 → (tj_pI t = -1 - nI j ↔ t = 3 - j) := by decide +kernel
theorem tj_sh9 : ∀ j, j < 4 → 9 - 3 * nI j = nI (3 * (3 - j)) := by decide +kernel
/-! ===== the number of a place under a choice ===== -/
def tj_pv (t c : Nat) : Nat := if t < 4 then c / 8 ^ t % 8 else t - 4
theorem tj_pv_lt {t c : Nat} (h : t < 12) : tj_pv t c < 8 := by
  unfold tj_pv
  split
  · exact Nat.mod_lt _ (by decide)
  · omega
theorem tj_pv_v {t c : Nat} (h : t < 4) : tj_pv t c = c / 8 ^ t % 8 := if_pos h
theorem tj_pv_n {t c : Nat} (h : 4 ≤ t) : tj_pv t c = t - 4 := if_neg (by omega)
theorem tj_digit {t c : Nat} (ht : t < 4) (hc : c < 4096) : nI c >>> (nI (3 * t) &&& 31) &&& 7 = nI (c / 8 ^ t % 8) := by
  have e : 2 ^ (3 * t) = 8 ^ t := Nat.pow_mul 2 3 t
  have hd : c / 8 ^ t ≤ c := Nat.div_le_self _ _
  rw [pk_shrN (by omega) (nI (3 * t) &&& 31) (3 * t) (s_l (3 * t) (by omega)), e]
  exact pk_andN (by omega) 3 (by decide)
/-! ===== the mask of the variables that stand ===== -/
def tj_s4 (b0 b1 b2 b3 : Bool) : Int32 := ((cond b0 7 0 ||| cond b1 56 0) ||| cond b2 448 0) ||| cond b3 3584 0
def tj_sb (f : Nat → Bool) : Int32 := tj_s4 (f 0) (f 1) (f 2) (f 3)
def tj_bt (t : Nat) : Int32 := tj_s4 (t == 0) (t == 1) (t == 2) (t == 3)
theorem tj_s4or : ∀ a b c d a' b' c' d' : Bool, tj_s4 a b c d ||| tj_s4 a' b' c' d' = tj_s4 (a || a') (b || b') (c || c') (d || d') := by decide +kernel
theorem tj_bt_v : ∀ t, t < 4 → (7 : Int32) <<< (nI (3 * t) &&& 31) = tj_bt t := by decide +kernel
theorem tj_bt_n {t : Nat} (h : 4 ≤ t) : tj_bt t = 0 := by
  have e0 : (t == 0) = false := by simp; omega
  have e1 : (t == 1) = false := by simp; omega
  have e2 : (t == 2) = false := by simp; omega
  have e3 : (t == 3) = false := by simp; omega
  unfold tj_bt
  rw [e0, e1, e2, e3]
  decide
theorem tj_stand0 : ∀ a b c d : Bool, ((tj_s4 a b c d &&& tj_bt 0) = 0 ↔ a = false) := by decide +kernel
theorem tj_stand1 : ∀ a b c d : Bool, ((tj_s4 a b c d &&& tj_bt 1) = 0 ↔ b = false) := by decide +kernel
theorem tj_stand2 : ∀ a b c d : Bool, ((tj_s4 a b c d &&& tj_bt 2) = 0 ↔ c = false) := by decide +kernel
theorem tj_stand3 : ∀ a b c d : Bool, ((tj_s4 a b c d &&& tj_bt 3) = 0 ↔ d = false) := by decide +kernel
theorem tj_stand (f : Nat → Bool) {t : Nat} (ht : t < 4) : (tj_sb f &&& tj_bt t) = 0 ↔ f t = false := by
  match t, ht with
  | 0, _ => exact tj_stand0 _ _ _ _
  | 1, _ => exact tj_stand1 _ _ _ _
  | 2, _ => exact tj_stand2 _ _ _ _
  | 3, _ => exact tj_stand3 _ _ _ _
theorem tj_and_or (x y z : Int32) : (x ||| y) &&& z = (x &&& z) ||| (y &&& z) := by
  apply b_ext
  intro i _
  rw [b_and, b_or, b_or, b_and, b_and]
  cases bt x i <;> cases bt y i <;> cases bt z i <;> rfl
theorem tj_split : ∀ c, c < 4096 → nI c = ((nI (c % 8) ||| nI (8 * (c / 8 % 8))) ||| nI (64 * (c / 64 % 8))) ||| nI (512 * (c / 512 % 8)) := by decide +kernel
theorem tj_an0 : ∀ a b c d : Bool, ∀ x, x < 8 → ((nI x &&& (tj_s4 a b c d ^^^ (-1))) = 0 ↔ (x = 0 ∨ a = true)) := by decide +kernel
theorem tj_an1 : ∀ a b c d : Bool, ∀ x, x < 8 → ((nI (8 * x) &&& (tj_s4 a b c d ^^^ (-1))) = 0 ↔ (x = 0 ∨ b = true)) := by decide +kernel
theorem tj_an2 : ∀ a b c d : Bool, ∀ x, x < 8 → ((nI (64 * x) &&& (tj_s4 a b c d ^^^ (-1))) = 0 ↔ (x = 0 ∨ c = true)) := by decide +kernel
theorem tj_an3 : ∀ a b c d : Bool, ∀ x, x < 8 → ((nI (512 * x) &&& (tj_s4 a b c d ^^^ (-1))) = 0 ↔ (x = 0 ∨ d = true)) := by decide +kernel
theorem tj_free (f : Nat → Bool) {c : Nat} (hc : c < 4096) : (nI c &&& (tj_sb f ^^^ (-1))) = 0 ↔ ∀ t, t < 4 → c / 8 ^ t % 8 ≠ 0 → f t = true := by
  rw [tj_split c hc, tj_and_or, tj_and_or, tj_and_or, Int32.or_eq_zero_iff, Int32.or_eq_zero_iff, Int32.or_eq_zero_iff]
  unfold tj_sb
  rw [tj_an0 _ _ _ _ _ (Nat.mod_lt _ (by decide)), tj_an1 _ _ _ _ _ (Nat.mod_lt _ (by decide)), tj_an2 _ _ _ _ _ (Nat.mod_lt _ (by decide)), tj_an3 _ _ _ _ _ (Nat.mod_lt _ (by decide))]
  constructor
  · rintro ⟨⟨⟨h0, h1⟩, h2⟩, h3⟩ t ht hd
    match t, ht with
    | 0, _ => exact h0.resolve_left (by simpa using hd)
    | 1, _ => exact h1.resolve_left hd
    | 2, _ => exact h2.resolve_left hd
    | 3, _ => exact h3.resolve_left hd
  · intro h
    refine ⟨⟨⟨?_, ?_⟩, ?_⟩, ?_⟩
    · rcases Nat.eq_zero_or_pos (c % 8) with z | z
      · exact Or.inl z
      · exact Or.inr (h 0 (by omega) (by simp; omega))
    · rcases Nat.eq_zero_or_pos (c / 8 % 8) with z | z
      · exact Or.inl z
      · exact Or.inr (h 1 (by omega) (Nat.ne_of_gt z))
    · rcases Nat.eq_zero_or_pos (c / 64 % 8) with z | z
      · exact Or.inl z
      · exact Or.inr (h 2 (by omega) (Nat.ne_of_gt z))
    · rcases Nat.eq_zero_or_pos (c / 512 % 8) with z | z
      · exact Or.inl z
      · exact Or.inr (h 3 (by omega) (Nat.ne_of_gt z))
/-! ===== which variables stand ===== -/
def tj_st (pl : Nat → Nat) : Nat → Nat → Bool
  | 0, _ => false
  | m + 1, t => tj_st pl m t || pl m == t
theorem tj_st_congr {pl pl' : Nat → Nat} {t : Nat} : ∀ m, (∀ i, i < m → pl i = pl' i) → tj_st pl m t = tj_st pl' m t := by
  intro m
  induction m with
  | zero => intro _; rfl
  | succ m ih =>
    intro h
    show (tj_st pl m t || pl m == t) = (tj_st pl' m t || pl' m == t)
    rw [ih (fun i hi => h i (by omega)), h m (by omega)]
theorem tj_st_mono {pl : Nat → Nat} {t : Nat} : ∀ m i, i < m → pl i = t → tj_st pl m t = true := by
  intro m
  induction m with
  | zero => intro i hi; omega
  | succ m ih =>
    intro i hi e
    show (tj_st pl m t || pl m == t) = true
    rcases Nat.lt_or_ge i m with h | h
    · simp [ih i h e]
    · have hm : m = i := by omega
      rw [hm, e]
      simp
theorem tj_st_s {pl : Nat → Nat} {t m : Nat} (h : tj_st pl m t = false) (hm : pl m ≠ t) : tj_st pl (m + 1) t = false := by
  show (tj_st pl m t || pl m == t) = false
  rw [h]
  simp [hm]
/-- the codes with one pattern more -/
def tj_pl (pl : Nat → Nat) (m t1 t2 t3 : Nat) : Nat → Nat := fun j => if j = m then t1 else if j = m + 1 then t2 else if j = m + 2 then t3 else pl j
theorem tj_pl_0 {pl : Nat → Nat} {m t1 t2 t3 : Nat} : tj_pl pl m t1 t2 t3 m = t1 := if_pos rfl
theorem tj_pl_1 {pl : Nat → Nat} {m t1 t2 t3 : Nat} : tj_pl pl m t1 t2 t3 (m + 1) = t2 := by
  unfold tj_pl
  rw [if_neg (by omega), if_pos rfl]
theorem tj_pl_2 {pl : Nat → Nat} {m t1 t2 t3 : Nat} : tj_pl pl m t1 t2 t3 (m + 2) = t3 := by
  unfold tj_pl
  rw [if_neg (by omega), if_neg (by omega), if_pos rfl]
theorem tj_pl_o {pl : Nat → Nat} {m t1 t2 t3 j : Nat} (h : j < m) : tj_pl pl m t1 t2 t3 j = pl j := by
  unfold tj_pl
  rw [if_neg (by omega), if_neg (by omega), if_neg (by omega)]
theorem tj_pl_lt {pl : Nat → Nat} {m t1 t2 t3 : Nat} (h : ∀ j, pl j < 12) (h1 : t1 < 12) (h2 : t2 < 12) (h3 : t3 < 12) (j : Nat) : tj_pl pl m t1 t2 t3 j < 12 := by
  unfold tj_pl
  split
  · exact h1
  · split
    · exact h2
    · split
      · exact h3
      · exact h j
theorem tj_st_pl (pl : Nat → Nat) (m t1 t2 t3 t : Nat) : tj_st (tj_pl pl m t1 t2 t3) (m + 3) t = (tj_st pl m t || ((t1 == t || t2 == t) || t3 == t)) := by
  show (((tj_st (tj_pl pl m t1 t2 t3) m t || tj_pl pl m t1 t2 t3 m == t) || tj_pl pl m t1 t2 t3 (m + 1) == t) || tj_pl pl m t1 t2 t3 (m + 2) == t) = _
  rw [tj_pl_0, tj_pl_1, tj_pl_2, tj_st_congr (pl' := pl) m (fun i hi => tj_pl_o hi)]
  simp only [Bool.or_assoc]
theorem tj_sb_pl (pl : Nat → Nat) (m t1 t2 t3 : Nat) : tj_sb (tj_st pl m) ||| ((tj_bt t1 ||| tj_bt t2) ||| tj_bt t3) = tj_sb (tj_st (tj_pl pl m t1 t2 t3) (m + 3)) := by
  unfold tj_sb tj_bt
  rw [tj_s4or, tj_s4or, tj_s4or, tj_st_pl, tj_st_pl, tj_st_pl, tj_st_pl]
/-! ===== facts, their number, their indices ===== -/
def tj_cn (a : Nat → Int32) : Nat → Nat
  | 0 => 0
  | m + 1 => if a m = 0 then tj_cn a m else tj_cn a m + 1
theorem tj_cn_z {a : Nat → Int32} {m : Nat} (h : a m = 0) : tj_cn a (m + 1) = tj_cn a m := if_pos h
theorem tj_cn_n {a : Nat → Int32} {m : Nat} (h : ¬ a m = 0) : tj_cn a (m + 1) = tj_cn a m + 1 := if_neg h
theorem tj_cn_le (a : Nat → Int32) : ∀ m, tj_cn a m ≤ m := by
  intro m
  induction m with
  | zero => exact Nat.le_refl 0
  | succ m ih =>
    by_cases h : a m = 0
    · rw [tj_cn_z h]; omega
    · rw [tj_cn_n h]; omega
theorem tj_cn_0 : ∀ m, tj_cn (fun _ => 0) m = 0 := by
  intro m
  induction m with
  | zero => rfl
  | succ m ih => rw [tj_cn_z rfl, ih]
theorem tj_cn_ge (a : Nat → Int32) (i : Nat) (x : Int32) : ∀ m, m ≤ i → tj_cn (upd a i x) m = tj_cn a m := by
  intro m
  induction m with
  | zero => intro _; rfl
  | succ m ih =>
    intro h
    have e : upd a i x m = a m := pk_un (by omega)
    by_cases z : a m = 0
    · rw [tj_cn_z z, tj_cn_z (e.trans z), ih (by omega)]
    · rw [tj_cn_n z, tj_cn_n (by rw [e]; exact z), ih (by omega)]
theorem tj_cn_add {a : Nat → Int32} {i : Nat} {x : Int32} (h : a i = 0) (hx : ¬ x = 0) : ∀ m, i < m → tj_cn (upd a i x) m = tj_cn a m + 1 := by
  intro m
  induction m with
  | zero => intro z; omega
  | succ m ih =>
    intro hm
    rcases Nat.lt_or_ge i m with h1 | h1
    · have e : upd a i x m = a m := pk_un (by omega)
      by_cases z : a m = 0
      · rw [tj_cn_z z, tj_cn_z (e.trans z), ih h1]
      · rw [tj_cn_n z, tj_cn_n (by rw [e]; exact z), ih h1]
    · have hi : m = i := by omega
      rw [hi, tj_cn_z h, tj_cn_n (by rw [pk_us]; exact hx), tj_cn_ge a i x i (Nat.le_refl i)]
theorem tj_cn_rem {a : Nat → Int32} {i : Nat} (h : ¬ a i = 0) : ∀ m, i < m → tj_cn (upd a i 0) m + 1 = tj_cn a m := by
  intro m
  induction m with
  | zero => intro z; omega
  | succ m ih =>
    intro hm
    rcases Nat.lt_or_ge i m with h1 | h1
    · have e : upd a i 0 m = a m := pk_un (by omega)
      by_cases z : a m = 0
      · rw [tj_cn_z z, tj_cn_z (e.trans z), ih h1]
      · rw [tj_cn_n z, tj_cn_n (by rw [e]; exact z), ih h1]
    · have hi : m = i := by omega
      rw [hi, tj_cn_n h, tj_cn_z pk_us, tj_cn_ge a i 0 i (Nat.le_refl i)]
theorem tj_fi : ∀ s, s < 8 → ∀ p, p < 8 → ∀ o, o < 8 → ((nI s <<< ((6 : Int32) &&& 31)) ||| (nI p <<< ((3 : Int32) &&& 31))) ||| nI o = nI (64 * s + 8 * p + o) := by decide +kernel
theorem tj_fy (s p o : Nat) : (64 * nI s + 8 * nI p) + nI o = nI (64 * s + 8 * p + o) := by
  show (nI 64 * nI s + nI 8 * nI p) + nI o = _
  rw [pk_mul, pk_mul, nI_add, nI_add]
theorem tj_i64 {i : Nat} (h : i < 512) : nI i >>> ((6 : Int32) &&& 31) = nI (i / 64) := pk_shrN (by omega) _ 6 (by decide)
theorem tj_i8 {i : Nat} (h : i < 512) : (nI i >>> ((3 : Int32) &&& 31)) &&& 7 = nI (i / 8 % 8) := by
  rw [pk_shrN (by omega) _ 3 (by decide)]
  exact pk_andN (by omega) 3 (by decide)
theorem tj_i1 {i : Nat} (h : i < 512) : nI i &&& 7 = nI (i % 8) := pk_andN (by omega) 3 (by decide)
theorem tj_y64 {i : Nat} (h : i < 512) : nI i / 64 = nI (i / 64) := pk_div (d := 64) (by omega) (by omega) (by omega)
theorem tj_y8 {i : Nat} (h : i < 512) : nI i / 8 - nI i / 8 / 8 * 8 = nI (i / 8 % 8) := by
  have e : nI i / 8 = nI (i / 8) := pk_div (d := 8) (by omega) (by omega) (by omega)
  rw [e]
  exact pk_rem (d := 8) (by omega) (by omega) (by omega)
theorem tj_y1 {i : Nat} (h : i < 512) : nI i - nI i / 8 * 8 = nI (i % 8) := pk_rem (d := 8) (by omega) (by omega) (by omega)
/-! ===== a solution ===== -/
def tj_ix (pl : Nat → Nat) (c k : Nat) : Nat := 64 * tj_pv (pl (3 * k)) c + 8 * tj_pv (pl (3 * k + 1)) c + tj_pv (pl (3 * k + 2)) c
def tj_P (a : Nat → Int32) (pl : Nat → Nat) (n c : Nat) : Prop := (∀ t, t < 4 → c / 8 ^ t % 8 ≠ 0 → tj_st pl (3 * n) t = true) ∧ ∀ k, k < n → ¬ a (tj_ix pl c k) = 0
theorem tj_ix_lt {pl : Nat → Nat} (h : ∀ j, pl j < 12) (c k : Nat) : tj_ix pl c k < 512 := by
  have h1 := tj_pv_lt (c := c) (h (3 * k))
  have h2 := tj_pv_lt (c := c) (h (3 * k + 1))
  have h3 := tj_pv_lt (c := c) (h (3 * k + 2))
  unfold tj_ix
  omega
/-! ===== bits of what was seen ===== -/
theorem tj_bit (m : Int32) {i : Nat} (hi : i < 32) : (m &&& ((1 : Int32) <<< (nI i &&& 31))) = 0 ↔ bt m i = false := by
  rw [← Int32.toBitVec_inj, Int32.toBitVec_and, nf_sh i hi, BitVec.and_twoPow]
  show _ = 0#32 ↔ m.toBitVec.getLsbD i = false
  cases hb : m.toBitVec.getLsbD i
  · exact ⟨fun _ => rfl, fun _ => by simp⟩
  · exact ⟨fun z => absurd ((if_pos rfl).symm.trans z) (nf_tp i hi), fun z => absurd z (by decide)⟩
theorem tj_set : ∀ v, v < 8 → ∀ i, i < 8 → bt ((1 : Int32) <<< (nI v &&& 31)) i = (v == i) := by decide +kernel
