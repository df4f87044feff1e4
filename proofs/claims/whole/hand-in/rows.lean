section
theorem pk_us {f : Nat → Int32} {k : Nat} {x : Int32} : upd f k x k = x := if_pos rfl
theorem pk_un {f : Nat → Int32} {k j : Nat} {x : Int32} (h : j ≠ k) : upd f k x j = f j := if_neg h
theorem pk_sub {a b : Nat} (h : b ≤ a) : nI a - nI b = nI (a - b) := by
  obtain ⟨c, rfl⟩ : ∃ c, a = c + b := ⟨a - b, by omega⟩
  rw [← nI_add, Int32.add_sub_cancel, Nat.add_sub_cancel]
theorem pk_mul (a b : Nat) : nI a * nI b = nI (a * b) := (Int32.ofNat_mul a b).symm
theorem pk_div {a d : Nat} (ha : a < 2 ^ 31) (h0 : 0 < d) (hd : d < 2 ^ 31) : nI a / nI d = nI (a / d) := by
  apply Int32.toInt_inj.mp
  rw [lg_idiv_nonneg (by rw [nI_toInt ha]; omega) (by rw [nI_toInt hd]; omega), nI_toInt ha, nI_toInt hd, nI_toInt (Nat.lt_of_le_of_lt (Nat.div_le_self a d) ha)]
  first | rfl | exact (Int.natCast_ediv _ _).symm
theorem pk_rem {a d : Nat} (ha : a < 2 ^ 31) (h0 : 0 < d) (hd : d < 2 ^ 31) : nI a - nI a / nI d * nI d = nI (a % d) := by
  rw [pk_div ha h0 hd, pk_mul, pk_sub (Nat.div_mul_le_self a d)]
  exact congrArg nI (by have := Nat.div_add_mod' a d; omega)
theorem pk_sub_toInt {a b : Nat} (ha : a < 2 ^ 30) (hb : b < 2 ^ 30) : (nI a - nI b).toInt = (a : Int) - b := by
  rw [Int32.toInt_sub, nI_toInt (by omega), nI_toInt (by omega)]
  exact Int.bmod_eq_of_le (by omega) (by omega)
theorem pk_ix (x : Int32) {n : Nat} (hn : n < 2 ^ 31) : x < 0 ∨ nI n ≤ x ∨ ∃ j : Nat, j < n ∧ x = nI j := by
  by_cases h : x < 0
  · exact Or.inl h
  · obtain ⟨j, hj, rfl⟩ := nI_of h
    by_cases h2 : j < n
    · exact Or.inr (Or.inr ⟨j, h2, rfl⟩)
    · exact Or.inr (Or.inl (nI_le (by omega) hj))
theorem pk_le {x y : Int32} {A B : Prop} (a b : Nat) (f : a ≤ b → A) (g : b < a → B) (hx : x = nI a := by rfl) (hy : y = nI b := by rfl) (ha : a < 2 ^ 31 := by omega) (hb : b < 2 ^ 31 := by omega) : (x ≤ y → A) ∧ (¬ x ≤ y → B) := by
  subst hx hy
  rw [nI_leI ha hb]
  exact ⟨f, fun z => g (by omega)⟩
theorem pk_lt {x y : Int32} {A B : Prop} (a b : Nat) (f : a < b → A) (g : b ≤ a → B) (hx : x = nI a := by rfl) (hy : y = nI b := by rfl) (ha : a < 2 ^ 31 := by omega) (hb : b < 2 ^ 31 := by omega) : (x < y → A) ∧ (¬ x < y → B) := by
  subst hx hy
  rw [nI_ltI ha hb]
  exact ⟨f, fun z => g (by omega)⟩
theorem pk_eq {x y : Int32} {A B : Prop} (a b : Nat) (f : a = b → A) (g : a ≠ b → B) (hx : x = nI a := by rfl) (hy : y = nI b := by rfl) (ha : a < 2 ^ 31 := by omega) (hb : b < 2 ^ 31 := by omega) : (x = y → A) ∧ (¬ x = y → B) := by
  subst hx hy
  rw [nI_eq ha hb]
  exact ⟨f, g⟩
theorem pk_in {x : Int32} (n N : Nat) (h : n < N) (hx : x = nI n := by rfl) (hN : N < 2 ^ 31 := by omega) : vp_in x N := by
  subst hx
  exact vp_in_nI h hN
theorem pk_cl {x : Int32} (n : Nat) (hx : x = nI n := by rfl) (h : n < 2 ^ 31 := by omega) : x.toNatClampNeg = n := by
  subst hx
  exact nI_clamp h
theorem pk_tn {n : Nat} (h : n < 2 ^ 32) : (nI n).toBitVec.toNat = n := Nat.mod_eq_of_lt h
theorem pk_and (x : Int32) {m : Int32} (k : Nat) (hm : m.toBitVec.toNat = 2 ^ k - 1) : x &&& m = nI (x.toBitVec.toNat % 2 ^ k) := by
  apply Int32.toBitVec_inj.mp
  apply BitVec.eq_of_toNat_eq
  rw [Int32.toBitVec_and, BitVec.toNat_and, hm, Nat.and_two_pow_sub_one_eq_mod]
  show _ = (BitVec.ofNat 32 _).toNat
  rw [BitVec.toNat_ofNat]
  exact (Nat.mod_eq_of_lt (Nat.lt_of_le_of_lt (Nat.mod_le _ _) x.toBitVec.isLt)).symm
theorem pk_andN {n : Nat} (h : n < 2 ^ 32) {m : Int32} (k : Nat) (hm : m.toBitVec.toNat = 2 ^ k - 1) : nI n &&& m = nI (n % 2 ^ k) := by
  rw [pk_and _ k hm, pk_tn h]
theorem pk_shl (a s : Int32) (k : Nat) (hs : (s.toBitVec.smod 32).toNat = k) : (a <<< s).toBitVec.toNat = a.toBitVec.toNat * 2 ^ k % 2 ^ 32 := by
  show (a.toBitVec <<< (s.toBitVec.smod 32).toNat).toNat = _
  rw [hs, BitVec.toNat_shiftLeft, Nat.shiftLeft_eq]
theorem pk_shlN {n : Nat} (s : Int32) (k : Nat) (hs : (s.toBitVec.smod 32).toNat = k) (h : n * 2 ^ k < 2 ^ 32) : nI n <<< s = nI (n * 2 ^ k) := by
  apply Int32.toBitVec_inj.mp
  apply BitVec.eq_of_toNat_eq
  have hn : n < 2 ^ 32 := Nat.lt_of_le_of_lt (Nat.le_mul_of_pos_right n (Nat.two_pow_pos k)) h
  rw [pk_shl _ _ k hs, pk_tn hn, pk_tn h, Nat.mod_eq_of_lt h]
theorem pk_shr (a s : Int32) (k : Nat) (hs : (s.toBitVec.smod 32).toNat = k) : (a >>> s).toInt = a.toInt >>> k := by
  show (a.toBitVec.sshiftRight (s.toBitVec.smod 32).toNat).toInt = _
  rw [hs, BitVec.toInt_sshiftRight]
  rfl
theorem pk_shrN {n : Nat} (h : n < 2 ^ 31) (s : Int32) (k : Nat) (hs : (s.toBitVec.smod 32).toNat = k) : nI n >>> s = nI (n / 2 ^ k) := by
  apply Int32.toInt_inj.mp
  have h2 : n / 2 ^ k ≤ n := Nat.div_le_self _ _
  rw [pk_shr _ _ k hs, nI_toInt h, nI_toInt (by omega), Int.shiftRight_eq_div_pow]
  rfl
def bt (x : Int32) (i : Nat) : Bool := x.toBitVec.getLsbD i
theorem b_ext {x y : Int32} (h : ∀ i, i < 32 → bt x i = bt y i) : x = y := Int32.toBitVec_inj.mp (BitVec.eq_of_getLsbD_eq (fun i hi => h i hi))
theorem b_or (x y : Int32) (i : Nat) : bt (x ||| y) i = (bt x i || bt y i) := by unfold bt; rw [Int32.toBitVec_or, BitVec.getLsbD_or]
theorem b_and (x y : Int32) (i : Nat) : bt (x &&& y) i = (bt x i && bt y i) := by unfold bt; rw [Int32.toBitVec_and, BitVec.getLsbD_and]
theorem b_xor (x y : Int32) (i : Nat) : bt (x ^^^ y) i = (bt x i ^^ bt y i) := by unfold bt; rw [Int32.toBitVec_xor, BitVec.getLsbD_xor]
theorem b_0 (i : Nat) : bt 0 i = false := BitVec.getLsbD_zero
theorem s_l : ∀ n, n < 32 → ((nI n &&& 31).toBitVec.smod 32).toNat = n := by decide +kernel
theorem nx_and (a b : Nat) : nI a &&& nI b = nI (a &&& b) := by
  apply Int32.toBitVec_inj.1
  show BitVec.ofNat 32 a &&& BitVec.ofNat 32 b = BitVec.ofNat 32 (a &&& b)
  apply BitVec.eq_of_getLsbD_eq
  intro i hi
  simp [hi]
theorem nf_sh : ∀ l, l < 32 → ((1 : Int32) <<< (nI l &&& 31)).toBitVec = BitVec.twoPow 32 l := by decide +kernel
theorem nf_tp : ∀ l, l < 32 → BitVec.twoPow 32 l ≠ 0#32 := by decide +kernel
end
section
/-! ===== places by codes: -4 is 0, .., -1 is 3, the number j is j + 4 ===== -/
def tj_pI (t : Nat) : Int32 := nI t - 4
theorem tj_pI_toInt {t : Nat} (h : t < 12) : (tj_pI t).toInt = (t : Int) - 4 := by
  have e : (nI t - nI 4).toInt = (t : Int) - ((4 : Nat) : Int) := pk_sub_toInt (by omega) (by omega)
  exact e
theorem tj_of {x : Int32} (h1 : ¬ x < -4) (h2 : ¬ 7 < x) : ∃ t, t < 12 ∧ x = tj_pI t := by
  rw [Int32.lt_iff_toInt_lt] at h1 h2
  have e1 : (-4 : Int32).toInt = -4 := by decide
  have e2 : (7 : Int32).toInt = 7 := by decide
  rw [e1] at h1
  rw [e2] at h2
  refine ⟨(x.toInt + 4).toNat, by omega, Int32.toInt_inj.mp ?_⟩
  rw [tj_pI_toInt (by omega)]
  omega
theorem tj_num {x : Int32} (h1 : ¬ x < 0) (h2 : ¬ 7 < x) : ∃ j, j < 8 ∧ x = nI j := by
  obtain ⟨j, hj, rfl⟩ := nI_of h1
  refine ⟨j, ?_, rfl⟩
  have h3 : ¬ nI 7 < nI j := h2
  rw [nI_ltI (by omega) hj] at h3
  omega
theorem tj_num_ge {j : Nat} (h : j < 8) : ¬ nI j < 0 := nI_pos (by omega)
theorem tj_num_le {j : Nat} (h : j < 8) : ¬ 7 < nI j := by
  show ¬ nI 7 < nI j
  rw [nI_ltI (by omega) (by omega)]
  omega
theorem tj_neg : ∀ t, t < 4 → tj_pI t < 0 ∧ ¬ tj_pI t < -4 ∧ -4 ≤ tj_pI t ∧ ¬ 0 ≤ tj_pI t := by decide +kernel
theorem tj_pos {t : Nat} (h : 4 ≤ t) : tj_pI t = nI (t - 4) := by
  have e : nI t - nI 4 = nI (t - 4) := pk_sub h
  exact e
theorem tj_rng : ∀ t, t < 12 → ¬ tj_pI t < -4 ∧ -4 ≤ tj_pI t ∧ ¬ 7 < tj_pI t ∧ tj_pI t ≤ 7 := by decide +kernel
theorem tj_shift : ∀ t, t < 4 → (tj_pI t - (-4)) * 3 = nI (3 * t) := by decide +kernel
theorem tj_var : ∀ t, t < 4 → -1 - tj_pI t = nI (3 - t) := by decide +kernel
theorem tj_ne : ∀ t, t < 12 → ∀ j, j < 4 → (tj_pI t = -1 - nI j ↔ t = 3 - j) := by decide +kernel
theorem tj_sh9 : ∀ j, j < 4 → 9 - 3 * nI j = nI (3 * (3 - j)) := by decide +kernel
/-! ===== the number of a place under a choice ===== -/
def tj_pv (t c : Nat) : Nat := if t < 4 then c / 8 ^ t % 8 else t - 4
theorem tj_pv_lt {t c : Nat} (h : t < 12) : tj_pv t c < 8 := by
  unfold tj_pv
  split
  · exact Nat.mod_lt _ (by decide)
  · omega
theorem tj_pv_v {t c : Nat} (h : t < 4) : tj_pv t c = c / 8 ^ t % 8 := if_pos h
theorem tj_pv_n {t c : Nat} (h : 4 ≤ t) : tj_pv t c = t - 4 := if_neg (by omega)
theorem tj_digit {t c : Nat} (ht : t < 4) (hc : c < 4096) : nI c >>> (nI (3 * t) &&& 31) &&& 7 = nI (c / 8 ^ t % 8) := by
  have e : 2 ^ (3 * t) = 8 ^ t := Nat.pow_mul 2 3 t
  have hd : c / 8 ^ t ≤ c := Nat.div_le_self _ _
  rw [pk_shrN (by omega) (nI (3 * t) &&& 31) (3 * t) (s_l (3 * t) (by omega)), e]
  exact pk_andN (by omega) 3 (by decide)
/-! ===== the mask of the variables that stand ===== -/
def tj_s4 (b0 b1 b2 b3 : Bool) : Int32 := ((cond b0 7 0 ||| cond b1 56 0) ||| cond b2 448 0) ||| cond b3 3584 0
def tj_sb (f : Nat → Bool) : Int32 := tj_s4 (f 0) (f 1) (f 2) (f 3)
def tj_bt (t : Nat) : Int32 := tj_s4 (t == 0) (t == 1) (t == 2) (t == 3)
theorem tj_s4or : ∀ a b c d a' b' c' d' : Bool, tj_s4 a b c d ||| tj_s4 a' b' c' d' = tj_s4 (a || a') (b || b') (c || c') (d || d') := by decide +kernel
theorem tj_bt_v : ∀ t, t < 4 → (7 : Int32) <<< (nI (3 * t) &&& 31) = tj_bt t := by decide +kernel
theorem tj_bt_n {t : Nat} (h : 4 ≤ t) : tj_bt t = 0 := by
  have e0 : (t == 0) = false := by simp; omega
  have e1 : (t == 1) = false := by simp; omega
  have e2 : (t == 2) = false := by simp; omega
  have e3 : (t == 3) = false := by simp; omega
  unfold tj_bt
  rw [e0, e1, e2, e3]
  decide
theorem tj_stand0 : ∀ a b c d : Bool, ((tj_s4 a b c d &&& tj_bt 0) = 0 ↔ a = false) := by decide +kernel
theorem tj_stand1 : ∀ a b c d : Bool, ((tj_s4 a b c d &&& tj_bt 1) = 0 ↔ b = false) := by decide +kernel
theorem tj_stand2 : ∀ a b c d : Bool, ((tj_s4 a b c d &&& tj_bt 2) = 0 ↔ c = false) := by decide +kernel
theorem tj_stand3 : ∀ a b c d : Bool, ((tj_s4 a b c d &&& tj_bt 3) = 0 ↔ d = false) := by decide +kernel
theorem tj_stand (f : Nat → Bool) {t : Nat} (ht : t < 4) : (tj_sb f &&& tj_bt t) = 0 ↔ f t = false := by
  match t, ht with
  | 0, _ => exact tj_stand0 _ _ _ _
  | 1, _ => exact tj_stand1 _ _ _ _
  | 2, _ => exact tj_stand2 _ _ _ _
  | 3, _ => exact tj_stand3 _ _ _ _
theorem tj_and_or (x y z : Int32) : (x ||| y) &&& z = (x &&& z) ||| (y &&& z) := by
  apply b_ext
  intro i _
  rw [b_and, b_or, b_or, b_and, b_and]
  cases bt x i <;> cases bt y i <;> cases bt z i <;> rfl
theorem tj_split : ∀ c, c < 4096 → nI c = ((nI (c % 8) ||| nI (8 * (c / 8 % 8))) ||| nI (64 * (c / 64 % 8))) ||| nI (512 * (c / 512 % 8)) := by decide +kernel
theorem tj_an0 : ∀ a b c d : Bool, ∀ x, x < 8 → ((nI x &&& (tj_s4 a b c d ^^^ (-1))) = 0 ↔ (x = 0 ∨ a = true)) := by decide +kernel
theorem tj_an1 : ∀ a b c d : Bool, ∀ x, x < 8 → ((nI (8 * x) &&& (tj_s4 a b c d ^^^ (-1))) = 0 ↔ (x = 0 ∨ b = true)) := by decide +kernel
theorem tj_an2 : ∀ a b c d : Bool, ∀ x, x < 8 → ((nI (64 * x) &&& (tj_s4 a b c d ^^^ (-1))) = 0 ↔ (x = 0 ∨ c = true)) := by decide +kernel
theorem tj_an3 : ∀ a b c d : Bool, ∀ x, x < 8 → ((nI (512 * x) &&& (tj_s4 a b c d ^^^ (-1))) = 0 ↔ (x = 0 ∨ d = true)) := by decide +kernel
theorem tj_free (f : Nat → Bool) {c : Nat} (hc : c < 4096) : (nI c &&& (tj_sb f ^^^ (-1))) = 0 ↔ ∀ t, t < 4 → c / 8 ^ t % 8 ≠ 0 → f t = true := by
  rw [tj_split c hc, tj_and_or, tj_and_or, tj_and_or, Int32.or_eq_zero_iff, Int32.or_eq_zero_iff, Int32.or_eq_zero_iff]
  unfold tj_sb
  rw [tj_an0 _ _ _ _ _ (Nat.mod_lt _ (by decide)), tj_an1 _ _ _ _ _ (Nat.mod_lt _ (by decide)), tj_an2 _ _ _ _ _ (Nat.mod_lt _ (by decide)), tj_an3 _ _ _ _ _ (Nat.mod_lt _ (by decide))]
  constructor
  · rintro ⟨⟨⟨h0, h1⟩, h2⟩, h3⟩ t ht hd
    match t, ht with
    | 0, _ => exact h0.resolve_left (by simpa using hd)
    | 1, _ => exact h1.resolve_left hd
    | 2, _ => exact h2.resolve_left hd
    | 3, _ => exact h3.resolve_left hd
  · intro h
    refine ⟨⟨⟨?_, ?_⟩, ?_⟩, ?_⟩
    · rcases Nat.eq_zero_or_pos (c % 8) with z | z
      · exact Or.inl z
      · exact Or.inr (h 0 (by omega) (by simp; omega))
    · rcases Nat.eq_zero_or_pos (c / 8 % 8) with z | z
      · exact Or.inl z
      · exact Or.inr (h 1 (by omega) (Nat.ne_of_gt z))
    · rcases Nat.eq_zero_or_pos (c / 64 % 8) with z | z
      · exact Or.inl z
      · exact Or.inr (h 2 (by omega) (Nat.ne_of_gt z))
    · rcases Nat.eq_zero_or_pos (c / 512 % 8) with z | z
      · exact Or.inl z
      · exact Or.inr (h 3 (by omega) (Nat.ne_of_gt z))
/-! ===== which variables stand ===== -/
def tj_st (pl : Nat → Nat) : Nat → Nat → Bool
  | 0, _ => false
  | m + 1, t => tj_st pl m t || pl m == t
theorem tj_st_congr {pl pl' : Nat → Nat} {t : Nat} : ∀ m, (∀ i, i < m → pl i = pl' i) → tj_st pl m t = tj_st pl' m t := by
  intro m
  induction m with
  | zero => intro _; rfl
  | succ m ih =>
    intro h
    show (tj_st pl m t || pl m == t) = (tj_st pl' m t || pl' m == t)
    rw [ih (fun i hi => h i (by omega)), h m (by omega)]
theorem tj_st_mono {pl : Nat → Nat} {t : Nat} : ∀ m i, i < m → pl i = t → tj_st pl m t = true := by
  intro m
  induction m with
  | zero => intro i hi; omega
  | succ m ih =>
    intro i hi e
    show (tj_st pl m t || pl m == t) = true
    rcases Nat.lt_or_ge i m with h | h
    · simp [ih i h e]
    · have hm : m = i := by omega
      rw [hm, e]
      simp
theorem tj_st_s {pl : Nat → Nat} {t m : Nat} (h : tj_st pl m t = false) (hm : pl m ≠ t) : tj_st pl (m + 1) t = false := by
  show (tj_st pl m t || pl m == t) = false
  rw [h]
  simp [hm]
/-- the codes with one pattern more -/
def tj_pl (pl : Nat → Nat) (m t1 t2 t3 : Nat) : Nat → Nat := fun j => if j = m then t1 else if j = m + 1 then t2 else if j = m + 2 then t3 else pl j
theorem tj_pl_0 {pl : Nat → Nat} {m t1 t2 t3 : Nat} : tj_pl pl m t1 t2 t3 m = t1 := if_pos rfl
theorem tj_pl_1 {pl : Nat → Nat} {m t1 t2 t3 : Nat} : tj_pl pl m t1 t2 t3 (m + 1) = t2 := by
  unfold tj_pl
  rw [if_neg (by omega), if_pos rfl]
theorem tj_pl_2 {pl : Nat → Nat} {m t1 t2 t3 : Nat} : tj_pl pl m t1 t2 t3 (m + 2) = t3 := by
  unfold tj_pl
  rw [if_neg (by omega), if_neg (by omega), if_pos rfl]
theorem tj_pl_o {pl : Nat → Nat} {m t1 t2 t3 j : Nat} (h : j < m) : tj_pl pl m t1 t2 t3 j = pl j := by
  unfold tj_pl
  rw [if_neg (by omega), if_neg (by omega), if_neg (by omega)]
theorem tj_pl_lt {pl : Nat → Nat} {m t1 t2 t3 : Nat} (h : ∀ j, pl j < 12) (h1 : t1 < 12) (h2 : t2 < 12) (h3 : t3 < 12) (j : Nat) : tj_pl pl m t1 t2 t3 j < 12 := by
  unfold tj_pl
  split
  · exact h1
  · split
    · exact h2
    · split
      · exact h3
      · exact h j
theorem tj_st_pl (pl : Nat → Nat) (m t1 t2 t3 t : Nat) : tj_st (tj_pl pl m t1 t2 t3) (m + 3) t = (tj_st pl m t || ((t1 == t || t2 == t) || t3 == t)) := by
  show (((tj_st (tj_pl pl m t1 t2 t3) m t || tj_pl pl m t1 t2 t3 m == t) || tj_pl pl m t1 t2 t3 (m + 1) == t) || tj_pl pl m t1 t2 t3 (m + 2) == t) = _
  rw [tj_pl_0, tj_pl_1, tj_pl_2, tj_st_congr (pl' := pl) m (fun i hi => tj_pl_o hi)]
  simp only [Bool.or_assoc]
theorem tj_sb_pl (pl : Nat → Nat) (m t1 t2 t3 : Nat) : tj_sb (tj_st pl m) ||| ((tj_bt t1 ||| tj_bt t2) ||| tj_bt t3) = tj_sb (tj_st (tj_pl pl m t1 t2 t3) (m + 3)) := by
  unfold tj_sb tj_bt
  rw [tj_s4or, tj_s4or, tj_s4or, tj_st_pl, tj_st_pl, tj_st_pl, tj_st_pl]
/-! ===== facts, their number, their indices ===== -/
def tj_cn (a : Nat → Int32) : Nat → Nat
  | 0 => 0
  | m + 1 => if a m = 0 then tj_cn a m else tj_cn a m + 1
theorem tj_cn_z {a : Nat → Int32} {m : Nat} (h : a m = 0) : tj_cn a (m + 1) = tj_cn a m := if_pos h
theorem tj_cn_n {a : Nat → Int32} {m : Nat} (h : ¬ a m = 0) : tj_cn a (m + 1) = tj_cn a m + 1 := if_neg h
theorem tj_cn_le (a : Nat → Int32) : ∀ m, tj_cn a m ≤ m := by
  intro m
  induction m with
  | zero => exact Nat.le_refl 0
  | succ m ih =>
    by_cases h : a m = 0
    · rw [tj_cn_z h]; omega
    · rw [tj_cn_n h]; omega
theorem tj_cn_0 : ∀ m, tj_cn (fun _ => 0) m = 0 := by
  intro m
  induction m with
  | zero => rfl
  | succ m ih => rw [tj_cn_z rfl, ih]
theorem tj_cn_ge (a : Nat → Int32) (i : Nat) (x : Int32) : ∀ m, m ≤ i → tj_cn (upd a i x) m = tj_cn a m := by
  intro m
  induction m with
  | zero => intro _; rfl
  | succ m ih =>
    intro h
    have e : upd a i x m = a m := pk_un (by omega)
    by_cases z : a m = 0
    · rw [tj_cn_z z, tj_cn_z (e.trans z), ih (by omega)]
    · rw [tj_cn_n z, tj_cn_n (by rw [e]; exact z), ih (by omega)]
theorem tj_cn_add {a : Nat → Int32} {i : Nat} {x : Int32} (h : a i = 0) (hx : ¬ x = 0) : ∀ m, i < m → tj_cn (upd a i x) m = tj_cn a m + 1 := by
  intro m
  induction m with
  | zero => intro z; omega
  | succ m ih =>
    intro hm
    rcases Nat.lt_or_ge i m with h1 | h1
    · have e : upd a i x m = a m := pk_un (by omega)
      by_cases z : a m = 0
      · rw [tj_cn_z z, tj_cn_z (e.trans z), ih h1]
      · rw [tj_cn_n z, tj_cn_n (by rw [e]; exact z), ih h1]
    · have hi : m = i := by omega
      rw [hi, tj_cn_z h, tj_cn_n (by rw [pk_us]; exact hx), tj_cn_ge a i x i (Nat.le_refl i)]
theorem tj_cn_rem {a : Nat → Int32} {i : Nat} (h : ¬ a i = 0) : ∀ m, i < m → tj_cn (upd a i 0) m + 1 = tj_cn a m := by
  intro m
  induction m with
  | zero => intro z; omega
  | succ m ih =>
    intro hm
    rcases Nat.lt_or_ge i m with h1 | h1
    · have e : upd a i 0 m = a m := pk_un (by omega)
      by_cases z : a m = 0
      · rw [tj_cn_z z, tj_cn_z (e.trans z), ih h1]
      · rw [tj_cn_n z, tj_cn_n (by rw [e]; exact z), ih h1]
    · have hi : m = i := by omega
      rw [hi, tj_cn_n h, tj_cn_z pk_us, tj_cn_ge a i 0 i (Nat.le_refl i)]
theorem tj_fi : ∀ s, s < 8 → ∀ p, p < 8 → ∀ o, o < 8 → ((nI s <<< ((6 : Int32) &&& 31)) ||| (nI p <<< ((3 : Int32) &&& 31))) ||| nI o = nI (64 * s + 8 * p + o) := by decide +kernel
theorem tj_fy (s p o : Nat) : (64 * nI s + 8 * nI p) + nI o = nI (64 * s + 8 * p + o) := by
  show (nI 64 * nI s + nI 8 * nI p) + nI o = _
  rw [pk_mul, pk_mul, nI_add, nI_add]
theorem tj_i64 {i : Nat} (h : i < 512) : nI i >>> ((6 : Int32) &&& 31) = nI (i / 64) := pk_shrN (by omega) _ 6 (by decide)
theorem tj_i8 {i : Nat} (h : i < 512) : (nI i >>> ((3 : Int32) &&& 31)) &&& 7 = nI (i / 8 % 8) := by
  rw [pk_shrN (by omega) _ 3 (by decide)]
  exact pk_andN (by omega) 3 (by decide)
theorem tj_i1 {i : Nat} (h : i < 512) : nI i &&& 7 = nI (i % 8) := pk_andN (by omega) 3 (by decide)
theorem tj_y64 {i : Nat} (h : i < 512) : nI i / 64 = nI (i / 64) := pk_div (d := 64) (by omega) (by omega) (by omega)
theorem tj_y8 {i : Nat} (h : i < 512) : nI i / 8 - nI i / 8 / 8 * 8 = nI (i / 8 % 8) := by
  have e : nI i / 8 = nI (i / 8) := pk_div (d := 8) (by omega) (by omega) (by omega)
  rw [e]
  exact pk_rem (d := 8) (by omega) (by omega) (by omega)
theorem tj_y1 {i : Nat} (h : i < 512) : nI i - nI i / 8 * 8 = nI (i % 8) := pk_rem (d := 8) (by omega) (by omega) (by omega)
/-! ===== a solution ===== -/
def tj_ix (pl : Nat → Nat) (c k : Nat) : Nat := 64 * tj_pv (pl (3 * k)) c + 8 * tj_pv (pl (3 * k + 1)) c + tj_pv (pl (3 * k + 2)) c
def tj_P (a : Nat → Int32) (pl : Nat → Nat) (n c : Nat) : Prop := (∀ t, t < 4 → c / 8 ^ t % 8 ≠ 0 → tj_st pl (3 * n) t = true) ∧ ∀ k, k < n → ¬ a (tj_ix pl c k) = 0
theorem tj_ix_lt {pl : Nat → Nat} (h : ∀ j, pl j < 12) (c k : Nat) : tj_ix pl c k < 512 := by
  have h1 := tj_pv_lt (c := c) (h (3 * k))
  have h2 := tj_pv_lt (c := c) (h (3 * k + 1))
  have h3 := tj_pv_lt (c := c) (h (3 * k + 2))
  unfold tj_ix
  omega
/-! ===== bits of what was seen ===== -/
theorem tj_bit (m : Int32) {i : Nat} (hi : i < 32) : (m &&& ((1 : Int32) <<< (nI i &&& 31))) = 0 ↔ bt m i = false := by
  rw [← Int32.toBitVec_inj, Int32.toBitVec_and, nf_sh i hi, BitVec.and_twoPow]
  show _ = 0#32 ↔ m.toBitVec.getLsbD i = false
  cases hb : m.toBitVec.getLsbD i
  · exact ⟨fun _ => rfl, fun _ => by simp⟩
  · exact ⟨fun z => absurd ((if_pos rfl).symm.trans z) (nf_tp i hi), fun z => absurd z (by decide)⟩
theorem tj_set : ∀ v, v < 8 → ∀ i, i < 8 → bt ((1 : Int32) <<< (nI v &&& 31)) i = (v == i) := by decide +kernel
end
section
/-! ===== what both sides ask of an int ===== -/
def tj_N (x : Int32) : Prop := ¬ x < 0 ∧ ¬ 7 < x
def tj_V (x : Int32) : Prop := ¬ x < -4 ∧ x < 0
def tj_L (x : Int32) : Prop := ¬ x < -4 ∧ ¬ 7 < x
def tj_H (a : Nat → Int32) (s p o : Int32) : Prop := ∃ i j k : Nat, i < 8 ∧ j < 8 ∧ k < 8 ∧ s = nI i ∧ p = nI j ∧ o = nI k ∧ ¬ a (64 * i + 8 * j + k) = 0
def tj_S (pl : Nat → Nat) (n : Nat) (x : Int32) : Prop := ∃ t, t < 4 ∧ x = tj_pI t ∧ tj_st pl (3 * n) t = true
def tj_A (x : Int32) (j : Nat) : Prop := ¬ tj_N x ∨ x = nI j
theorem tj_N_of {x : Int32} (h : tj_N x) : ∃ j, j < 8 ∧ x = nI j := tj_num h.1 h.2
theorem tj_N_nI {j : Nat} (h : j < 8) : tj_N (nI j) := ⟨tj_num_ge h, tj_num_le h⟩
theorem tj_L_of {x : Int32} (h : tj_L x) : ∃ t, t < 12 ∧ x = tj_pI t := tj_of h.1 h.2
theorem tj_L_pI {t : Nat} (h : t < 12) : tj_L (tj_pI t) := ⟨(tj_rng t h).1, (tj_rng t h).2.2.1⟩
theorem tj_V_pI {t : Nat} (h : t < 4) : tj_V (tj_pI t) := ⟨(tj_neg t h).2.1, (tj_neg t h).1⟩
theorem tj_V_not {t : Nat} (h : 4 ≤ t) (h2 : t < 12) : ¬ tj_V (tj_pI t) := by
  rw [tj_pos h]
  exact fun z => nI_pos (by omega) z.2
theorem tj_V_of {x : Int32} (h : tj_V x) : ∃ t, t < 4 ∧ x = tj_pI t := by
  obtain ⟨t, ht, rfl⟩ := tj_of (x := x) h.1 (by
    have h2 := h.2
    rw [Int32.lt_iff_toInt_lt] at h2 ⊢
    have e1 : (0 : Int32).toInt = 0 := by decide
    have e2 : (7 : Int32).toInt = 7 := by decide
    rw [e1] at h2
    rw [e2]
    omega)
  rcases Nat.lt_or_ge t 4 with h4 | h4
  · exact ⟨t, h4, rfl⟩
  · exact absurd h (tj_V_not h4 ht)
theorem tj_NV {x : Int32} (h : tj_L x) (hn : ¬ tj_N x) : tj_V x := by
  refine ⟨h.1, ?_⟩
  by_cases z : x < 0
  · exact z
  · exact absurd ⟨z, h.2⟩ hn
theorem tj_N_L {x : Int32} (h : tj_N x) : tj_L x := by
  obtain ⟨j, hj, rfl⟩ := tj_N_of h
  have e : tj_pI (j + 4) = nI j := tj_pos (t := j + 4) (by omega)
  rw [← e]
  exact tj_L_pI (by omega)
theorem tj_V_L {x : Int32} (h : tj_V x) : tj_L x := by
  obtain ⟨t, ht, rfl⟩ := tj_V_of h
  exact tj_L_pI (by omega)
theorem tj_H_nI {a : Nat → Int32} {s p o : Nat} (hs : s < 8) (hp : p < 8) (ho : o < 8) : tj_H a (nI s) (nI p) (nI o) ↔ ¬ a (64 * s + 8 * p + o) = 0 := by
  constructor
  · rintro ⟨i, j, k, hi, hj, hk, e1, e2, e3, h⟩
    rw [nI_eq (by omega) (by omega)] at e1 e2 e3
    subst e1 e2 e3
    exact h
  · exact fun h => ⟨s, p, o, hs, hp, ho, rfl, rfl, rfl, h⟩
theorem tj_H_N {a : Nat → Int32} {s p o : Int32} (h : tj_H a s p o) : tj_N s ∧ tj_N p ∧ tj_N o := by
  obtain ⟨i, j, k, hi, hj, hk, rfl, rfl, rfl, _⟩ := h
  exact ⟨tj_N_nI hi, tj_N_nI hj, tj_N_nI hk⟩
theorem tj_S_pI {pl : Nat → Nat} {n t : Nat} (ht : t < 4) : tj_S pl n (tj_pI t) ↔ tj_st pl (3 * n) t = true := by
  constructor
  · rintro ⟨t', ht', e, h⟩
    have e2 : (tj_pI t).toInt = (tj_pI t').toInt := by rw [e]
    rw [tj_pI_toInt (by omega), tj_pI_toInt (by omega)] at e2
    have : t = t' := by omega
    subst this
    exact h
  · exact fun h => ⟨t, ht, rfl, h⟩
theorem tj_S_V {pl : Nat → Nat} {n : Nat} {x : Int32} (h : tj_S pl n x) : tj_V x := by
  obtain ⟨t, ht, rfl, _⟩ := h
  exact tj_V_pI ht
theorem tj_vb0 : vp_nar .boolean 0 = 0 := by decide
theorem tj_vb1 : vp_nar .boolean 1 = 1 := by decide
end
section
/-! ===== the component's own methods, each with a general post ===== -/
theorem tj_10 : ¬ (1 : Int32) = 0 := by decide
theorem tj_xNum {post : Int32 → Prop} {x : Int32} (h1 : tj_N x → post 1) (h0 : ¬ tj_N x → post 0) : wpX_isNumber post x := by
  unfold wpX_isNumber
  by_cases ha : x < 0
  · exact br_t ha (h0 fun z => z.1 ha)
  · refine br_f ha ?_
    by_cases hb : 7 < x
    · exact br_t hb (h0 fun z => z.2 hb)
    · exact br_f hb (h1 ⟨ha, hb⟩)
theorem tj_xVar {post : Int32 → Prop} {x : Int32} (h1 : tj_V x → post 1) (h0 : ¬ tj_V x → post 0) : wpX_isVariable post x := by
  unfold wpX_isVariable
  by_cases ha : x < -4
  · exact br_t ha (h0 fun z => z.1 ha)
  · refine br_f ha ?_
    by_cases hb : 0 ≤ x
    · exact br_t hb (h0 fun z => Int32.not_le.mpr z.2 hb)
    · exact br_f hb (h1 ⟨ha, Int32.not_le.mp hb⟩)
theorem tj_xPlace {post : Int32 → Prop} {x : Int32} (h1 : tj_L x → post 1) (h0 : ¬ tj_L x → post 0) : wpX_isPlace post x := by
  unfold wpX_isPlace
  refine tj_xNum (fun hn => br_f tj_10 (h1 (tj_N_L hn))) (fun hn => br_t rfl ?_)
  exact tj_xVar (fun hv => br_f tj_10 (h1 (tj_V_L hv))) (fun hv => br_t rfl (h0 fun z => hv (tj_NV z hn)))
theorem tj_xFact {post : Int32 → Prop} {s p o : Int32} (h1 : tj_N s → tj_N p → tj_N o → post 1) (h0 : ¬ (tj_N s ∧ tj_N p ∧ tj_N o) → post 0) : wpX_isFact post s p o := by
  unfold wpX_isFact
  refine tj_xNum (fun hs => br_f tj_10 ?_) (fun hs => br_t rfl (h0 fun z => hs z.1))
  refine tj_xNum (fun hp => br_f tj_10 ?_) (fun hp => br_t rfl (h0 fun z => hp z.2.1))
  exact tj_xNum (fun ho => br_f tj_10 (h1 hs hp ho)) (fun ho => br_t rfl (h0 fun z => ho z.2.2))
theorem tj_xIdx {post : Int32 → Prop} {s p o : Nat} (hs : s < 8) (hp : p < 8) (ho : o < 8) (h : post (nI (64 * s + 8 * p + o))) : wpX_factIndex post (nI s) (nI p) (nI o) := by
  unfold wpX_factIndex
  rw [tj_fi s hs p hp o ho]
  exact h
theorem tj_xHeld {post : Int32 → Prop} {fc pc sb : Int32} {a ps pp po : Nat → Int32} {s p o : Int32} (h1 : tj_H a s p o → post 1) (h0 : ¬ tj_H a s p o → post 0) : wpX_isHeld post (fc, pc, sb, a, ps, pp, po) s p o := by
  unfold wpX_isHeld
  dsimp only
  refine tj_xFact (fun hs hp ho => br_f tj_10 ?_) (fun hn => br_t rfl (h0 fun z => hn (tj_H_N z)))
  obtain ⟨i, hi, rfl⟩ := tj_N_of hs
  obtain ⟨j, hj, rfl⟩ := tj_N_of hp
  obtain ⟨k, hk, rfl⟩ := tj_N_of ho
  have hx : 64 * i + 8 * j + k < 512 := by omega
  refine tj_xIdx hi hj hk ⟨vp_in_nI hx (by omega), ?_⟩
  rw [nI_clamp (by omega)]
  by_cases z : a (64 * i + 8 * j + k) = 0
  · exact br_t z (h0 fun w => (tj_H_nI hi hj hk).mp w z)
  · exact br_f z (h1 ((tj_H_nI hi hj hk).mpr z))
theorem tj_xAt {post : Int32 → Prop} {t c : Nat} (ht : t < 12) (hc : c < 4096) (h : post (nI (tj_pv t c))) : wpX_numberAt post (tj_pI t) (nI c) := by
  unfold wpX_numberAt
  refine tj_xVar (fun hv => br_f tj_10 ?_) (fun hv => br_t rfl ?_)
  · rcases Nat.lt_or_ge t 4 with h4 | h4
    · show post ((nI c >>> (((tj_pI t - (-4)) * 3) &&& 31)) &&& 7)
      rw [tj_shift t h4, tj_digit h4 hc]
      rw [tj_pv_v h4] at h
      exact h
    · exact absurd hv (tj_V_not h4 ht)
  · rcases Nat.lt_or_ge t 4 with h4 | h4
    · exact absurd (tj_V_pI h4) hv
    · rw [tj_pv_n h4] at h
      rw [tj_pos h4]
      exact h
theorem tj_xBits {post : Int32 → Prop} {t : Nat} (ht : t < 12) (h : post (tj_bt t)) : wpX_bitsOfPlace post (tj_pI t) := by
  unfold wpX_bitsOfPlace
  refine tj_xVar (fun hv => br_f tj_10 ?_) (fun hv => br_t rfl ?_)
  · rcases Nat.lt_or_ge t 4 with h4 | h4
    · show post ((7 : Int32) <<< (((tj_pI t - (-4)) * 3) &&& 31))
      rw [tj_shift t h4, tj_bt_v t h4]
      exact h
    · exact absurd hv (tj_V_not h4 ht)
  · rcases Nat.lt_or_ge t 4 with h4 | h4
    · exact absurd (tj_V_pI h4) hv
    · rw [tj_bt_n h4] at h
      exact h
theorem tj_xStands {post : Int32 → Prop} {fc pc : Int32} {a ps pp po : Nat → Int32} {pl : Nat → Nat} {n : Nat} {x : Int32} (h1 : tj_S pl n x → post 1) (h0 : ¬ tj_S pl n x → post 0) : wpX_stands post (fc, pc, tj_sb (tj_st pl (3 * n)), a, ps, pp, po) x := by
  unfold wpX_stands
  dsimp only
  by_cases hv : tj_V x
  · obtain ⟨t, ht, rfl⟩ := tj_V_of hv
    refine tj_xBits (by omega) ?_
    by_cases z : (tj_sb (tj_st pl (3 * n)) &&& tj_bt t) = 0
    · refine br_t z (h0 ?_)
      rw [tj_S_pI ht, (tj_stand _ ht).mp z]
      decide
    · refine br_f z (h1 ((tj_S_pI ht).mpr ?_))
      cases hb : tj_st pl (3 * n) t with
      | false => exact absurd ((tj_stand _ ht).mpr hb) z
      | true => rfl
  · unfold wpX_bitsOfPlace
    exact tj_xVar (fun w => absurd w hv) (fun _ => br_t rfl (br_t Int32.and_zero (h0 fun w => hv (tj_S_V w))))
/-! ===== a solution, on the component's side ===== -/
def tj_R (pl : Nat → Nat) (n : Nat) (ps pp po py : Nat → Int32) : Prop := n ≤ 4 ∧ (∀ j, pl j < 12) ∧ (∀ i, i < n → ps i = tj_pI (pl (3 * i)) ∧ pp i = tj_pI (pl (3 * i + 1)) ∧ po i = tj_pI (pl (3 * i + 2))) ∧ ∀ j, j < 3 * n → py j = tj_pI (pl j)
theorem tj_xSolLoop {post : Int32 → Prop} {fc : Int32} {a ps pp po py : Nat → Int32} {pl : Nat → Nat} {n c : Nat} (R : tj_R pl n ps pp po py) (hc : c < 4096) (hf : ∀ t, t < 4 → c / 8 ^ t % 8 ≠ 0 → tj_st pl (3 * n) t = true) (h1 : tj_P a pl n c → post 1) (h0 : ¬ tj_P a pl n c → post 0) : ∀ d i, i + d = n → (∀ k, k < i → ¬ a (tj_ix pl c k) = 0) → wX_isSolution_15 post (nI c) fc (nI n) (tj_sb (tj_st pl (3 * n))) a ps pp po (d + 1) (nI i) := by
  obtain ⟨hn, hpl, hx, _⟩ := R
  intro d
  induction d with
  | zero =>
    intro i hi hk
    exact br_t (nI_le (by omega) (by omega)) (h1 ⟨hf, fun k hkn => hk k (by omega)⟩)
  | succ d ih =>
    intro i hi hk
    have hin : i < n := by omega
    obtain ⟨e1, e2, e3⟩ := hx i hin
    have vi : vp_in (nI i) 4 := vp_in_nI (by omega) (by omega)
    have ci : (nI i).toNatClampNeg = i := nI_clamp (by omega)
    refine br_f (nI_ge hin (by omega)) ⟨vi, ?_⟩
    rw [ci, e1]
    refine tj_xAt (hpl _) hc ⟨vi, ?_⟩
    rw [e2]
    refine tj_xAt (hpl _) hc ⟨vi, ?_⟩
    rw [e3]
    refine tj_xAt (hpl _) hc ?_
    have l1 := tj_pv_lt (c := c) (hpl (3 * i))
    have l2 := tj_pv_lt (c := c) (hpl (3 * i + 1))
    have l3 := tj_pv_lt (c := c) (hpl (3 * i + 2))
    refine tj_xHeld (fun hh => br_f tj_10 (nm_r (nI_1 i) (ih (i + 1) (by omega) ?_))) (fun hh => br_t rfl (h0 fun z => hh ((tj_H_nI l1 l2 l3).mpr (z.2 i hin))))
    intro k hk'
    rcases Nat.lt_or_ge k i with w | w
    · exact hk k w
    · have e : k = i := by omega
      rw [e]
      exact (tj_H_nI l1 l2 l3).mp hh
theorem tj_xSol {post : Int32 → Prop} {fc : Int32} {a ps pp po py : Nat → Int32} {pl : Nat → Nat} {n c : Nat} (R : tj_R pl n ps pp po py) (hc : c < 4096) (h1 : tj_P a pl n c → post 1) (h0 : ¬ tj_P a pl n c → post 0) : wpX_isSolution post (fc, nI n, tj_sb (tj_st pl (3 * n)), a, ps, pp, po) (nI c) := by
  unfold wpX_isSolution
  dsimp only
  by_cases z : (nI c &&& (tj_sb (tj_st pl (3 * n)) ^^^ (-1))) = 0
  · exact br_t z ⟨n + 1, tj_xSolLoop R hc ((tj_free _ hc).mp z) h1 h0 n 0 (by omega) (fun k hk => absurd hk (Nat.not_lt_zero k))⟩
  · exact br_f z (h0 fun w => z ((tj_free _ hc).mpr w.1))
theorem tj_xAdm {post : Int32 → Prop} {x : Int32} {j : Nat} (h1 : tj_A x j → post 1) (h0 : ¬ tj_A x j → post 0) : wpX_admits post x (nI j) := by
  unfold wpX_admits
  refine tj_xNum (fun hn => br_f tj_10 ?_) (fun hn => br_t rfl (h1 (Or.inl hn)))
  by_cases z : x = nI j
  · exact br_t z (h1 (Or.inr z))
  · exact br_f z (h0 fun w => w.elim (fun q => q hn) z)
theorem tj_xAgr {post : Int32 → Prop} {s p o : Int32} {i : Nat} (hi : i < 512) (h1 : tj_A s (i / 64) → tj_A p (i / 8 % 8) → tj_A o (i % 8) → post 1) (h0 : ¬ (tj_A s (i / 64) ∧ tj_A p (i / 8 % 8) ∧ tj_A o (i % 8)) → post 0) : wpX_agrees post (nI i) s p o := by
  unfold wpX_agrees
  refine nm_r (tj_i64 hi) (nm_r (tj_i8 hi) (nm_r (tj_i1 hi) ?_))
  refine tj_xAdm (fun hs => br_f tj_10 ?_) (fun hs => br_t rfl (h0 fun z => hs z.1))
  refine tj_xAdm (fun hp => br_f tj_10 ?_) (fun hp => br_t rfl (h0 fun z => hp z.2.1))
  exact tj_xAdm (fun ho => br_f tj_10 (h1 hs hp ho)) (fun ho => br_t rfl (h0 fun z => ho z.2.2))
end
section
/-! ===== the reference's own methods, each with a general post ===== -/
theorem tj_yOut {post : Int32 → Prop} {x : Int32} (h0 : tj_N x → post 0) (h1 : ¬ tj_N x → post 1) : wpY_outside post x := by
  unfold wpY_outside
  by_cases ha : x < 0
  · exact br_t ha (h1 fun z => z.1 ha)
  · refine br_f ha ?_
    by_cases hb : x ≤ 7
    · exact br_t hb (h0 ⟨ha, Int32.not_lt.mpr hb⟩)
    · exact br_f hb (h1 fun z => z.2 (Int32.not_le.mp hb))
theorem tj_yHeldLoop {post : Int32 → Prop} {pc : Int32} {a py tr : Nat → Int32} (h : post (nI (tj_cn a 512))) : ∀ d i, i + d = 512 → wY_held_4 post pc a py tr (d + 1) (nI (tj_cn a i)) (nI i) := by
  intro d
  induction d with
  | zero =>
    intro i hi
    have e : i = 512 := by omega
    rw [e]
    exact br_t (nI_le (a := 512) (b := 512) (by omega) (by omega)) h
  | succ d ih =>
    intro i hi
    have hi5 : i < 512 := by omega
    have ih' := ih (i + 1) (by omega)
    refine br_f (nI_ge (b := 512) hi5 (by omega)) ⟨vp_in_nI hi5 (by omega), ?_⟩
    rw [nI_clamp (by omega)]
    by_cases z : a i = 0
    · rw [tj_cn_z z] at ih'
      exact br_t z (nm_r (nI_1 i) ih')
    · rw [tj_cn_n z] at ih'
      exact br_f z (nm_r (nI_1 _) (nm_r (nI_1 i) ih'))
theorem tj_yHeld {post : Int32 → Prop} {pc : Int32} {a py tr : Nat → Int32} (h : post (nI (tj_cn a 512))) : wpY_held post (pc, a, py, tr) := by
  unfold wpY_held
  exact ⟨513, tj_yHeldLoop h 512 0 (by omega)⟩
theorem tj_yHas {post : Int32 → Prop} {pc : Int32} {a py tr : Nat → Int32} {s p o : Int32} (h1 : tj_H a s p o → post 1) (h0 : ¬ tj_H a s p o → post 0) : wpY_has post (pc, a, py, tr) s p o := by
  unfold wpY_has
  dsimp only
  refine tj_yOut (fun hs => br_t rfl ?_) (fun hs => br_f tj_10 (h0 fun z => hs (tj_H_N z).1))
  refine tj_yOut (fun hp => br_t rfl ?_) (fun hp => br_f tj_10 (h0 fun z => hp (tj_H_N z).2.1))
  refine tj_yOut (fun ho => br_t rfl ?_) (fun ho => br_f tj_10 (h0 fun z => ho (tj_H_N z).2.2))
  obtain ⟨i, hi, rfl⟩ := tj_N_of hs
  obtain ⟨j, hj, rfl⟩ := tj_N_of hp
  obtain ⟨k, hk, rfl⟩ := tj_N_of ho
  have hx : 64 * i + 8 * j + k < 512 := by omega
  rw [tj_fy, nI_clamp (by omega)]
  refine ⟨vp_in_nI hx (by omega), ?_⟩
  by_cases z : a (64 * i + 8 * j + k) = 0
  · exact br_t z (h0 fun w => (tj_H_nI hi hj hk).mp w z)
  · exact br_f z (h1 ((tj_H_nI hi hj hk).mpr z))
theorem tj_yStandsLoop {post : Int32 → Prop} {a ps pp po py tr : Nat → Int32} {pl : Nat → Nat} {n j : Nat} (R : tj_R pl n ps pp po py) (hj : j < 4) (h1 : tj_st pl (3 * n) (3 - j) = true → post 1) (h0 : tj_st pl (3 * n) (3 - j) = false → post 0) : ∀ d i, i + d = 3 * n → tj_st pl i (3 - j) = false → wY_stands_2 post (nI j) (nI n) a py tr (d + 1) (nI i) := by
  obtain ⟨hn, hpl, _, hy⟩ := R
  have e3 : (3 : Int32) * nI n = nI (3 * n) := pk_mul 3 n
  intro d
  induction d with
  | zero =>
    intro i hi hf
    have e : i = 3 * n := by omega
    rw [e] at hf ⊢
    exact br_t (by rw [e3]; exact nI_le (Nat.le_refl _) (by omega)) (h0 hf)
  | succ d ih =>
    intro i hi hf
    have hin : i < 3 * n := by omega
    have hcond : py i = -1 - nI j ↔ pl i = 3 - j := by
      rw [hy i hin]
      exact tj_ne _ (hpl i) j hj
    refine br_f (by rw [e3]; exact nI_ge hin (by omega)) ⟨vp_in_nI (by omega) (by omega), ?_⟩
    rw [nI_clamp (by omega)]
    by_cases z : pl i = 3 - j
    · exact br_t (hcond.mpr z) (h1 (tj_st_mono _ i hin z))
    · exact br_f (fun w => z (hcond.mp w)) (nm_r (nI_1 i) (ih (i + 1) (by omega) (tj_st_s hf z)))
theorem tj_yStands {post : Int32 → Prop} {a ps pp po py tr : Nat → Int32} {pl : Nat → Nat} {n j : Nat} (R : tj_R pl n ps pp po py) (hj : j < 4) (h1 : tj_st pl (3 * n) (3 - j) = true → post 1) (h0 : tj_st pl (3 * n) (3 - j) = false → post 0) : wpY_stands post (nI n, a, py, tr) (nI j) := by
  unfold wpY_stands
  exact ⟨3 * n + 1, tj_yStandsLoop R hj h1 h0 (3 * n) 0 (by omega) rfl⟩
theorem tj_yMissing {post : Int32 → Prop} {a ps pp po py tr : Nat → Int32} {pl : Nat → Nat} {n : Nat} {x : Int32} (R : tj_R pl n ps pp po py) (h0 : tj_S pl n x → post 0) (h1 : ¬ tj_S pl n x → post 1) : wpY_missing post (nI n, a, py, tr) x := by
  unfold wpY_missing
  dsimp only
  by_cases ha : x < -4
  · exact br_t ha (h1 fun z => (tj_S_V z).1 ha)
  · refine br_f ha ?_
    by_cases hb : -1 < x
    · refine br_t hb (h1 fun z => ?_)
      have h2 := (tj_S_V z).2
      rw [Int32.lt_iff_toInt_lt] at hb h2
      have e1 : (-1 : Int32).toInt = -1 := by decide
      have e2 : (0 : Int32).toInt = 0 := by decide
      rw [e1] at hb
      rw [e2] at h2
      omega
    · refine br_f hb ?_
      have hv : tj_V x := by
        refine ⟨ha, ?_⟩
        rw [Int32.lt_iff_toInt_lt] at hb ⊢
        have e1 : (-1 : Int32).toInt = -1 := by decide
        have e2 : (0 : Int32).toInt = 0 := by decide
        rw [e1] at hb
        rw [e2]
        omega
      obtain ⟨t, ht, rfl⟩ := tj_V_of hv
      have e : 3 - (3 - t) = t := by omega
      rw [tj_var t ht]
      refine tj_yStands R (by omega) (fun hs => br_f tj_10 (h0 ((tj_S_pI ht).mpr ?_))) (fun hs => br_t rfl (h1 fun z => ?_))
      · rw [e] at hs
        exact hs
      · rw [e] at hs
        rw [tj_S_pI ht, hs] at z
        exact absurd z (by decide)
theorem tj_yFilled {post : Int32 → Prop} {a ps pp po py tr : Nat → Int32} {pl : Nat → Nat} {n c i : Nat} (R : tj_R pl n ps pp po py) (htr : ∀ j, j < 4 → tr j = nI (c / 8 ^ (3 - j) % 8)) (hi : i < 3 * n) (h : post (nI (tj_pv (pl i) c))) : wpY_filled post (nI n, a, py, tr) (nI i) := by
  obtain ⟨hn, hpl, _, hy⟩ := R
  have vi : vp_in (nI i) 12 := vp_in_nI (by omega) (by omega)
  unfold wpY_filled
  dsimp only
  refine ⟨vi, ?_⟩
  rw [nI_clamp (by omega), hy i hi]
  have hp := hpl i
  rcases Nat.lt_or_ge (pl i) 4 with h4 | h4
  · refine br_t (tj_neg _ h4).1 ⟨vi, ?_⟩
    rw [tj_var _ h4]
    refine ⟨vp_in_nI (by omega) (by omega), ?_⟩
    have e : 3 - (3 - pl i) = pl i := by omega
    rw [nI_clamp (by omega), htr _ (by omega), e]
    rw [tj_pv_v h4] at h
    exact h
  · rw [tj_pv_n h4] at h
    rw [tj_pos h4]
    exact br_f (nI_pos (by omega)) ⟨vi, h⟩
/-! ===== a solution, on the reference's side ===== -/
theorem tj_ySolLoop {post : Int32 → SY → Prop} {a ps pp po py tr : Nat → Int32} {pl : Nat → Nat} {n c : Nat} (R : tj_R pl n ps pp po py) (htr : ∀ j, j < 4 → tr j = nI (c / 8 ^ (3 - j) % 8)) (hf : ∀ t, t < 4 → c / 8 ^ t % 8 ≠ 0 → tj_st pl (3 * n) t = true) (h1 : tj_P a pl n c → post 1 (nI n, a, py, tr)) (h0 : ¬ tj_P a pl n c → post 0 (nI n, a, py, tr)) : ∀ d k, k + d = n → (∀ q, q < k → ¬ a (tj_ix pl c q) = 0) → wY_solves_51 post (nI n) a py tr (d + 1) (nI k) := by
  have hn := R.1
  have hpl := R.2.1
  intro d
  induction d with
  | zero =>
    intro k hk hq
    exact br_t (nI_le (by omega) (by omega)) (h1 ⟨hf, fun q hqn => hq q (by omega)⟩)
  | succ d ih =>
    intro k hk hq
    have hkn : k < n := by omega
    have e0 : (3 : Int32) * nI k = nI (3 * k) := pk_mul 3 k
    have e1 : (3 : Int32) * nI k + 1 = nI (3 * k + 1) := by rw [e0]; exact nI_1 _
    have e2 : (3 : Int32) * nI k + 2 = nI (3 * k + 2) := by rw [e0]; exact nI_add _ 2
    have l1 := tj_pv_lt (c := c) (hpl (3 * k))
    have l2 := tj_pv_lt (c := c) (hpl (3 * k + 1))
    have l3 := tj_pv_lt (c := c) (hpl (3 * k + 2))
    have hx := tj_ix_lt hpl c k
    refine br_f (nI_ge hkn (by omega)) ?_
    rw [e1, e2, e0]
    refine tj_yFilled R htr (by omega) ?_
    refine tj_yFilled R htr (by omega) ?_
    refine tj_yFilled R htr (by omega) ?_
    rw [tj_fy]
    refine ⟨vp_in_nI hx (by omega), ?_⟩
    have ec : (nI (64 * tj_pv (pl (3 * k)) c + 8 * tj_pv (pl (3 * k + 1)) c + tj_pv (pl (3 * k + 2)) c)).toNatClampNeg = tj_ix pl c k := nI_clamp (by omega)
    rw [ec]
    by_cases z : a (tj_ix pl c k) = 0
    · exact br_t z (h0 fun w => w.2 k hkn z)
    · refine br_f z (nm_r (nI_1 k) (ih (k + 1) (by omega) ?_))
      intro q hq'
      rcases Nat.lt_or_ge q k with w | w
      · exact hq q w
      · have e : q = k := by omega
        rw [e]
        exact z
theorem tj_ySolves1 {post : Int32 → SY → Prop} {a ps pp po py : Nat → Int32} {pl : Nat → Nat} {n c : Nat} (R : tj_R pl n ps pp po py) (hc : c < 4096) (h1 : tj_P a pl n c → ∀ tr : Nat → Int32, (∀ j, j < 4 → tr j = nI (c / 8 ^ (3 - j) % 8)) → post 1 (nI n, a, py, tr)) (h0 : ¬ tj_P a pl n c → ∀ tr : Nat → Int32, post 0 (nI n, a, py, tr)) : ∀ d j, j + d = 4 → ∀ tr : Nat → Int32, (∀ q, q < j → tr q = nI (c / 8 ^ (3 - q) % 8)) → (∀ q, q < j → c / 8 ^ (3 - q) % 8 ≠ 0 → tj_st pl (3 * n) (3 - q) = true) → wY_solves_2 post (nI c) (nI n) (d + 1) (nI j) a py tr := by
  have hn := R.1
  intro d
  induction d with
  | zero =>
    intro j hj tr htr hst
    have e : j = 4 := by omega
    rw [e] at htr hst ⊢
    refine br_t (nI_le (a := 4) (b := 4) (by omega) (by omega)) ⟨n + 1, tj_ySolLoop R htr ?_ (fun w => h1 w tr htr) (fun w => h0 w tr) n 0 (by omega) (fun k hk => absurd hk (Nat.not_lt_zero k))⟩
    intro t ht hd
    have e2 : 3 - (3 - t) = t := by omega
    have h := hst (3 - t) (by omega)
    rw [e2] at h
    exact h hd
  | succ d ih =>
    intro j hj tr htr hst
    have hj4 : j < 4 := by omega
    have vj : vp_in (nI j) 4 := vp_in_nI hj4 (by omega)
    have hD : c / 8 ^ (3 - j) % 8 < 8 := Nat.mod_lt _ (by decide)
    have ht2 : ∀ q, q < j + 1 → upd tr j (nI (c / 8 ^ (3 - j) % 8)) q = nI (c / 8 ^ (3 - q) % 8) := by
      intro q hq
      rcases Nat.lt_or_ge q j with w | w
      · rw [pk_un (by omega)]
        exact htr q w
      · have e : q = j := by omega
        rw [e, pk_us]
    refine br_f (nI_ge (b := 4) hj4 (by omega)) ⟨vj, ?_⟩
    rw [tj_sh9 j hj4, tj_digit (by omega) hc, nI_clamp (by omega)]
    refine nm_e ⟨vj, ?_⟩
    rw [pk_us]
    by_cases z : c / 8 ^ (3 - j) % 8 = 0
    · refine br_t (by rw [z]; decide) (nm_r (nI_1 j) (ih (j + 1) (by omega) _ ht2 ?_))
      intro q hq hd
      rcases Nat.lt_or_ge q j with w | w
      · exact hst q w hd
      · have e : q = j := by omega
        rw [e] at hd
        exact absurd z hd
    · refine br_f (nI_nle (by omega) (by omega)) ?_
      refine tj_yStands R hj4 (fun hs => br_f tj_10 (nm_r (nI_1 j) (ih (j + 1) (by omega) _ ht2 ?_))) (fun hs => br_t rfl (h0 (fun w => ?_) _))
      · intro q hq hd
        rcases Nat.lt_or_ge q j with w | w
        · exact hst q w hd
        · have e : q = j := by omega
          rw [e]
          exact hs
      · have h := w.1 (3 - j) (by omega) z
        rw [hs] at h
        exact absurd h (by decide)
theorem tj_ySol {post : Int32 → SY → Prop} {a ps pp po py tr : Nat → Int32} {pl : Nat → Nat} {n c : Nat} (R : tj_R pl n ps pp po py) (hc : c < 4096) (h1 : tj_P a pl n c → ∀ tr : Nat → Int32, (∀ j, j < 4 → tr j = nI (c / 8 ^ (3 - j) % 8)) → post 1 (nI n, a, py, tr)) (h0 : ¬ tj_P a pl n c → ∀ tr : Nat → Int32, post 0 (nI n, a, py, tr)) : wpY_solves post (nI n, a, py, tr) (nI c) := by
  unfold wpY_solves
  exact ⟨5, tj_ySolves1 R hc h1 h0 4 0 (by omega) tr (fun q hq => absurd hq (Nat.not_lt_zero q)) (fun q hq => absurd hq (Nat.not_lt_zero q))⟩
theorem tj_yAgr {post : Int32 → Prop} {x : Int32} {j : Nat} (h1 : tj_A x j → post 1) (h0 : ¬ tj_A x j → post 0) : wpY_agrees post x (nI j) := by
  unfold wpY_agrees
  refine tj_yOut (fun hn => br_t rfl ?_) (fun hn => br_f tj_10 (h1 (Or.inl hn)))
  by_cases z : x = nI j
  · exact br_t z (h1 (Or.inr z))
  · exact br_f z (h0 fun w => w.elim (fun q => q hn) z)
end
section
/-! ===== solutions ===== -/
theorem tj_4k {c : Nat} (h : c < 4096) : ¬ (4096 : Int32) ≤ nI c := nI_ge (b := 4096) h (by omega)
theorem tj_4e : (4096 : Int32) ≤ nI 4096 := nI_le (a := 4096) (b := 4096) (by omega) (by omega)
theorem tj_loopSol {fc : Int32} {a ps pp po py : Nat → Int32} {pl : Nat → Nat} {n : Nat} (R : tj_R pl n ps pp po py) : ∀ d c b, c + d = 4096 → ∃ r : Int32, (∀ post : Int32 → Prop, post r → wX_solutions_4 post fc (nI n) (tj_sb (tj_st pl (3 * n))) a ps pp po (d + 1) (nI b) (nI c)) ∧ (∀ (post : Int32 → SY → Prop) (tr : Nat → Int32), (∀ tr' : Nat → Int32, post r (nI n, a, py, tr')) → wY_solutions_4 post (d + 1) (nI b) (nI c) (nI n) a py tr) := by
  intro d
  induction d with
  | zero =>
    intro c b hc
    have e : c = 4096 := by omega
    rw [e]
    exact ⟨nI b, fun post h => br_t tj_4e h, fun post tr h => br_t tj_4e (h tr)⟩
  | succ d ih =>
    intro c b hc
    have hc4 : c < 4096 := by omega
    by_cases hP : tj_P a pl n c
    · obtain ⟨r, hX, hY⟩ := ih (c + 1) (b + 1) (by omega)
      refine ⟨r, fun post h => br_f (tj_4k hc4) ?_, fun post tr h => br_f (tj_4k hc4) ?_⟩
      · exact tj_xSol R hc4 (fun _ => br_f tj_10 (nm_r (nI_1 b) (nm_r (nI_1 c) (hX post h)))) (fun w => absurd hP w)
      · exact tj_ySol R hc4 (fun _ tr' _ => br_f tj_10 (nm_r (nI_1 b) (nm_r (nI_1 c) (hY post tr' h)))) (fun w => absurd hP w)
    · obtain ⟨r, hX, hY⟩ := ih (c + 1) b (by omega)
      refine ⟨r, fun post h => br_f (tj_4k hc4) ?_, fun post tr h => br_f (tj_4k hc4) ?_⟩
      · exact tj_xSol R hc4 (fun w => absurd w hP) (fun _ => br_t rfl (nm_r (nI_1 c) (hX post h)))
      · exact tj_ySol R hc4 (fun w => absurd w hP) (fun _ tr' => br_t rfl (nm_r (nI_1 c) (hY post tr' h)))
/-! ===== solution ===== -/
theorem tj_tv {t c : Nat} {tr : Nat → Int32} (ht : t < 4) (htr : ∀ j, j < 4 → tr j = nI (c / 8 ^ (3 - j) % 8)) : vp_in (-1 - tj_pI t) 4 ∧ tr (-1 - tj_pI t).toNatClampNeg = nI (tj_pv t c) := by
  have e : 3 - (3 - t) = t := by omega
  rw [tj_var t ht]
  refine ⟨vp_in_nI (by omega) (by omega), ?_⟩
  rw [nI_clamp (by omega), htr _ (by omega), e, tj_pv_v ht]
theorem tj_loopOne {fc k : Int32} {a ps pp po py : Nat → Int32} {pl : Nat → Nat} {n t : Nat} (R : tj_R pl n ps pp po py) (ht : t < 4) : ∀ d c b, c + d = 4096 → b ≤ c → ∃ r : Int32, (k < 0 → r = -1) ∧ (∀ post : Int32 → Prop, post r → wX_solution_19 post k (tj_pI t) fc (nI n) (tj_sb (tj_st pl (3 * n))) a ps pp po (d + 1) (nI b) (nI c)) ∧ (∀ (post : Int32 → SY → Prop) (tr : Nat → Int32), (∀ tr' : Nat → Int32, post r (nI n, a, py, tr')) → wY_solution_15 post k (tj_pI t) (d + 1) (nI b) (nI c) (nI n) a py tr) := by
  intro d
  induction d with
  | zero =>
    intro c b hc hb
    have e : c = 4096 := by omega
    rw [e]
    exact ⟨-1, fun _ => rfl, fun post h => br_t tj_4e h, fun post tr h => br_t tj_4e (h tr)⟩
  | succ d ih =>
    intro c b hc hb
    have hc4 : c < 4096 := by omega
    by_cases hP : tj_P a pl n c
    · by_cases hk : nI b = k
      · refine ⟨nI (tj_pv t c), fun z => ?_, fun post h => br_f (tj_4k hc4) ?_, fun post tr h => br_f (tj_4k hc4) ?_⟩
        · rw [← hk] at z
          exact absurd z (nI_pos (by omega))
        · exact tj_xSol R hc4 (fun _ => br_f tj_10 (br_t hk (tj_xAt (by omega) hc4 h))) (fun w => absurd hP w)
        · refine tj_ySol R hc4 (fun _ tr' htr => br_f tj_10 (br_t hk ⟨(tj_tv ht htr).1, ?_⟩)) (fun w => absurd hP w)
          rw [(tj_tv ht htr).2]
          exact h tr'
      · obtain ⟨r, h0, hX, hY⟩ := ih (c + 1) (b + 1) (by omega) (by omega)
        refine ⟨r, h0, fun post h => br_f (tj_4k hc4) ?_, fun post tr h => br_f (tj_4k hc4) ?_⟩
        · exact tj_xSol R hc4 (fun _ => br_f tj_10 (br_f hk (nm_r (nI_1 b) (nm_r (nI_1 c) (hX post h))))) (fun w => absurd hP w)
        · exact tj_ySol R hc4 (fun _ tr' _ => br_f tj_10 (br_f hk (nm_r (nI_1 b) (nm_r (nI_1 c) (hY post tr' h))))) (fun w => absurd hP w)
    · obtain ⟨r, h0, hX, hY⟩ := ih (c + 1) b (by omega) (by omega)
      refine ⟨r, h0, fun post h => br_f (tj_4k hc4) ?_, fun post tr h => br_f (tj_4k hc4) ?_⟩
      · exact tj_xSol R hc4 (fun w => absurd w hP) (fun _ => br_t rfl (nm_r (nI_1 c) (hX post h)))
      · exact tj_ySol R hc4 (fun w => absurd w hP) (fun _ tr' => br_t rfl (nm_r (nI_1 c) (hY post tr' h)))
/-! ===== with ===== -/
def tj_T (a : Nat → Int32) (pl : Nat → Nat) (n t : Nat) (x : Int32) (c : Nat) : Prop := ∃ c', c ≤ c' ∧ c' < 4096 ∧ tj_P a pl n c' ∧ nI (tj_pv t c') = x
theorem tj_T_end {a : Nat → Int32} {pl : Nat → Nat} {n t : Nat} {x : Int32} : ¬ tj_T a pl n t x 4096 := by
  rintro ⟨c', h1, h2, _⟩
  omega
theorem tj_T_s {a : Nat → Int32} {pl : Nat → Nat} {n t c : Nat} {x : Int32} (h : tj_T a pl n t x (c + 1)) : tj_T a pl n t x c := by
  obtain ⟨c', h1, h2⟩ := h
  exact ⟨c', by omega, h2⟩
theorem tj_T_n {a : Nat → Int32} {pl : Nat → Nat} {n t c : Nat} {x : Int32} (hn : ¬ (tj_P a pl n c ∧ nI (tj_pv t c) = x)) : tj_T a pl n t x c ↔ tj_T a pl n t x (c + 1) := by
  refine ⟨?_, tj_T_s⟩
  rintro ⟨c', h1, h2, h3⟩
  rcases Nat.lt_or_ge c c' with w | w
  · exact ⟨c', w, h2, h3⟩
  · have e : c' = c := by omega
    rw [e] at h3
    exact absurd h3 hn
theorem tj_loopWith {fc x : Int32} {a ps pp po py : Nat → Int32} {pl : Nat → Nat} {n t : Nat} (R : tj_R pl n ps pp po py) (ht : t < 4) : ∀ d c b, c + d = 4096 → ∃ m : Nat, b ≤ m ∧ m ≤ b + d ∧ (b < m ↔ tj_T a pl n t x c) ∧ (∀ post : Int32 → Prop, post (nI m) → wX_with_15 post (tj_pI t) x fc (nI n) (tj_sb (tj_st pl (3 * n))) a ps pp po (d + 1) (nI b) (nI c)) ∧ (∀ (post : Int32 → SY → Prop) (tr : Nat → Int32), (∀ tr' : Nat → Int32, post (nI m) (nI n, a, py, tr')) → wY_with_15 post (tj_pI t) x (d + 1) (nI b) (nI c) (nI n) a py tr) := by
  intro d
  induction d with
  | zero =>
    intro c b hc
    have e : c = 4096 := by omega
    rw [e]
    exact ⟨b, Nat.le_refl b, by omega, ⟨fun z => absurd z (Nat.lt_irrefl b), fun z => absurd z tj_T_end⟩, fun post h => br_t tj_4e h, fun post tr h => br_t tj_4e (h tr)⟩
  | succ d ih =>
    intro c b hc
    have hc4 : c < 4096 := by omega
    have ht12 : t < 12 := by omega
    by_cases hx : nI (tj_pv t c) = x
    · by_cases hP : tj_P a pl n c
      · obtain ⟨m, m1, m2, m3, hX, hY⟩ := ih (c + 1) (b + 1) (by omega)
        refine ⟨m, by omega, by omega, ⟨fun _ => ⟨c, Nat.le_refl c, hc4, hP, hx⟩, fun _ => by omega⟩, fun post h => br_f (tj_4k hc4) ?_, fun post tr h => br_f (tj_4k hc4) ?_⟩
        · exact tj_xAt ht12 hc4 (br_t hx (tj_xSol R hc4 (fun _ => br_f tj_10 (nm_r (nI_1 b) (nm_r (nI_1 c) (hX post h)))) (fun w => absurd hP w)))
        · exact tj_ySol R hc4 (fun _ tr' htr => br_f tj_10 ⟨(tj_tv ht htr).1, br_t ((tj_tv ht htr).2.trans hx) (nm_r (nI_1 b) (nm_r (nI_1 c) (hY post tr' h)))⟩) (fun w => absurd hP w)
      · obtain ⟨m, m1, m2, m3, hX, hY⟩ := ih (c + 1) b (by omega)
        refine ⟨m, by omega, by omega, m3.trans (tj_T_n (fun w => hP w.1)).symm, fun post h => br_f (tj_4k hc4) ?_, fun post tr h => br_f (tj_4k hc4) ?_⟩
        · exact tj_xAt ht12 hc4 (br_t hx (tj_xSol R hc4 (fun w => absurd w hP) (fun _ => br_t rfl (nm_r (nI_1 c) (hX post h)))))
        · exact tj_ySol R hc4 (fun w => absurd w hP) (fun _ tr' => br_t rfl (nm_r (nI_1 c) (hY post tr' h)))
    · obtain ⟨m, m1, m2, m3, hX, hY⟩ := ih (c + 1) b (by omega)
      refine ⟨m, by omega, by omega, m3.trans (tj_T_n (fun w => hx w.2)).symm, fun post h => br_f (tj_4k hc4) ?_, fun post tr h => br_f (tj_4k hc4) ?_⟩
      · exact tj_xAt ht12 hc4 (br_f hx (nm_r (nI_1 c) (hX post h)))
      · exact tj_ySol R hc4 (fun _ tr' htr => br_f tj_10 ⟨(tj_tv ht htr).1, br_f (fun w => hx ((tj_tv ht htr).2.symm.trans w)) (nm_r (nI_1 c) (hY post tr' h))⟩) (fun _ tr' => br_t rfl (nm_r (nI_1 c) (hY post tr' h)))
/-! ===== values ===== -/
theorem tj_loopSeen {fc : Int32} {a ps pp po py : Nat → Int32} {pl : Nat → Nat} {n t : Nat} (R : tj_R pl n ps pp po py) (ht : t < 4) : ∀ d c (s : Int32), c + d = 4096 → ∃ s' : Int32, (∀ i, i < 8 → (bt s' i = true ↔ (bt s i = true ∨ tj_T a pl n t (nI i) c))) ∧ ∀ post : Int32 → Prop, wpX_countNumbersIn post s' → wX_values_14 post (tj_pI t) fc (nI n) (tj_sb (tj_st pl (3 * n))) a ps pp po (d + 1) s (nI c) := by
  intro d
  induction d with
  | zero =>
    intro c s hc
    have e : c = 4096 := by omega
    rw [e]
    exact ⟨s, fun i _ => ⟨Or.inl, fun z => z.elim id (fun w => absurd w tj_T_end)⟩, fun post h => br_t tj_4e h⟩
  | succ d ih =>
    intro c s hc
    have hc4 : c < 4096 := by omega
    have ht12 : t < 12 := by omega
    have hv : tj_pv t c < 8 := tj_pv_lt ht12
    by_cases hP : tj_P a pl n c
    · obtain ⟨s', hb, hX⟩ := ih (c + 1) (s ||| ((1 : Int32) <<< (nI (tj_pv t c) &&& 31))) (by omega)
      refine ⟨s', fun i hi => ?_, fun post h => br_f (tj_4k hc4) ?_⟩
      · rw [hb i hi, b_or, tj_set _ hv i hi, Bool.or_eq_true, beq_iff_eq]
        constructor
        · rintro ((w | w) | w)
          · exact Or.inl w
          · exact Or.inr ⟨c, Nat.le_refl c, hc4, hP, by rw [w]⟩
          · exact Or.inr (tj_T_s w)
        · rintro (w | w)
          · exact Or.inl (Or.inl w)
          · by_cases z : tj_pv t c = i
            · exact Or.inl (Or.inr z)
            · refine Or.inr ((tj_T_n (fun q => z ?_)).mp w)
              have q2 := q.2
              rw [nI_eq (by omega) (by omega)] at q2
              exact q2
      · exact tj_xSol R hc4 (fun _ => br_f tj_10 (tj_xAt ht12 hc4 (nm_e (nm_r (nI_1 c) (hX post h))))) (fun w => absurd hP w)
    · obtain ⟨s', hb, hX⟩ := ih (c + 1) s (by omega)
      refine ⟨s', fun i hi => ?_, fun post h => br_f (tj_4k hc4) ?_⟩
      · rw [hb i hi, tj_T_n (c := c) (fun q => hP q.1)]
      · exact tj_xSol R hc4 (fun w => absurd w hP) (fun _ => br_t rfl (nm_r (nI_1 c) (hX post h)))
theorem tj_loopNum {s : Int32} {a py : Nat → Int32} {n t : Nat} (T : Nat → Prop) (hs : ∀ i, i < 8 → (bt s i = true ↔ T i)) (hW : ∀ i, i < 8 → ∃ m : Nat, m ≤ 4096 ∧ (0 < m ↔ T i) ∧ ∀ (post : Int32 → SY → Prop) (tr : Nat → Int32), (∀ tr' : Nat → Int32, post (nI m) (nI n, a, py, tr')) → wpY_with post (nI n, a, py, tr) (tj_pI t) (nI i)) : ∀ d i b, i + d = 8 → ∃ r : Int32, (∀ post : Int32 → Prop, post r → wX_countNumbersIn_4 post s (d + 1) (nI b) (nI i)) ∧ (∀ (post : Int32 → SY → Prop) (tr : Nat → Int32), (∀ tr' : Nat → Int32, post r (nI n, a, py, tr')) → wY_values_14 post (tj_pI t) (d + 1) (nI b) (nI i) (nI n) a py tr) := by
  intro d
  induction d with
  | zero =>
    intro i b hi
    have e : i = 8 := by omega
    rw [e]
    exact ⟨nI b, fun post h => br_t (nI_lt (a := 7) (b := 8) (by omega) (by omega)) h, fun post tr h => br_t (nI_le (a := 8) (b := 8) (by omega) (by omega)) (h tr)⟩
  | succ d ih =>
    intro i b hi
    have hi8 : i < 8 := by omega
    have hy : ¬ (8 : Int32) ≤ nI i := nI_ge (b := 8) hi8 (by omega)
    obtain ⟨m, hm, hT, hw⟩ := hW i hi8
    by_cases hTi : T i
    · obtain ⟨r, hX, hY⟩ := ih (i + 1) (b + 1) (by omega)
      have hb : ¬ (s &&& ((1 : Int32) <<< (nI i &&& 31))) = 0 := by
        rw [tj_bit s (by omega), (hs i hi8).mpr hTi]
        decide
      refine ⟨r, fun post h => br_f (tj_num_le hi8) (br_f hb (nm_r (nI_1 b) (nm_r (nI_1 i) (hX post h)))), fun post tr h => br_f hy ?_⟩
      exact hw _ tr (fun tr' => br_f (nI_nle (hT.mpr hTi) (by omega)) (nm_r (nI_1 b) (nm_r (nI_1 i) (hY post tr' h))))
    · obtain ⟨r, hX, hY⟩ := ih (i + 1) b (by omega)
      have hb : (s &&& ((1 : Int32) <<< (nI i &&& 31))) = 0 := by
        rw [tj_bit s (by omega)]
        cases z : bt s i with
        | false => rfl
        | true => exact absurd ((hs i hi8).mp z) hTi
      have hm0 : m = 0 := by
        rcases Nat.eq_zero_or_pos m with z | z
        · exact z
        · exact absurd (hT.mp z) hTi
      rw [hm0] at hw
      refine ⟨r, fun post h => br_f (tj_num_le hi8) (br_t hb (nm_r (nI_1 i) (hX post h))), fun post tr h => br_f hy ?_⟩
      exact hw _ tr (fun tr' => br_t (nI_le (a := 0) (b := 0) (by omega) (by omega)) (nm_r (nI_1 i) (hY post tr' h)))
/-! ===== count ===== -/
theorem tj_loopCount {fc pc pd sb s p o : Int32} {a ps pp po py tr : Nat → Int32} : ∀ d i b, i + d = 512 → ∃ r : Int32, (∀ post : Int32 → Prop, post r → wX_count_6 post s p o fc pc sb a ps pp po (d + 1) (nI b) (nI i)) ∧ (∀ post : Int32 → Prop, post r → wY_count_6 post s p o pd a py tr (d + 1) (nI b) (nI i)) := by
  intro d
  induction d with
  | zero =>
    intro i b hi
    have e : i = 512 := by omega
    rw [e]
    exact ⟨nI b, fun post h => br_t (nI_le (a := 512) (b := 512) (by omega) (by omega)) h, fun post h => br_t (nI_le (a := 512) (b := 512) (by omega) (by omega)) h⟩
  | succ d ih =>
    intro i b hi
    have hi5 : i < 512 := by omega
    have hge : ¬ (512 : Int32) ≤ nI i := nI_ge (b := 512) hi5 (by omega)
    have vi : vp_in (nI i) 512 := vp_in_nI hi5 (by omega)
    have ci : (nI i).toNatClampNeg = i := nI_clamp (by omega)
    by_cases z : a i = 0
    · obtain ⟨r, hX, hY⟩ := ih (i + 1) b (by omega)
      refine ⟨r, fun post h => br_f hge ⟨vi, ?_⟩, fun post h => br_f hge ⟨vi, ?_⟩⟩
      · rw [ci]
        exact br_t z (nm_r (nI_1 i) (hX post h))
      · rw [ci]
        exact br_t z (nm_r (nI_1 i) (hY post h))
    · by_cases hA : tj_A s (i / 64) ∧ tj_A p (i / 8 % 8) ∧ tj_A o (i % 8)
      · obtain ⟨r, hX, hY⟩ := ih (i + 1) (b + 1) (by omega)
        refine ⟨r, fun post h => br_f hge ⟨vi, ?_⟩, fun post h => br_f hge ⟨vi, ?_⟩⟩
        · rw [ci]
          refine br_f z (tj_xAgr hi5 (fun _ _ _ => br_f tj_10 (nm_r (nI_1 b) (nm_r (nI_1 i) (hX post h)))) (fun w => absurd hA w))
        · rw [ci, tj_y8 hi5, tj_y1 hi5, tj_y64 hi5]
          refine br_f z ⟨by decide, ?_⟩
          refine tj_yAgr (fun _ => br_f tj_10 ⟨by decide, by decide, ?_⟩) (fun w => absurd hA.1 w)
          refine tj_yAgr (fun _ => br_f tj_10 ⟨by decide, ?_⟩) (fun w => absurd hA.2.1 w)
          exact tj_yAgr (fun _ => br_f tj_10 (nm_r (nI_1 b) (nm_r (nI_1 i) (hY post h)))) (fun w => absurd hA.2.2 w)
      · obtain ⟨r, hX, hY⟩ := ih (i + 1) b (by omega)
        refine ⟨r, fun post h => br_f hge ⟨vi, ?_⟩, fun post h => br_f hge ⟨vi, ?_⟩⟩
        · rw [ci]
          refine br_f z (tj_xAgr hi5 (fun h1 h2 h3 => absurd ⟨h1, h2, h3⟩ hA) (fun _ => br_t rfl (nm_r (nI_1 i) (hX post h))))
        · rw [ci, tj_y8 hi5, tj_y1 hi5, tj_y64 hi5]
          refine br_f z ⟨by decide, ?_⟩
          refine tj_yAgr (fun h1 => br_f tj_10 ⟨by decide, by decide, ?_⟩) (fun _ => br_t rfl (nm_r (nI_1 i) (hY post h)))
          refine tj_yAgr (fun h2 => br_f tj_10 ⟨by decide, ?_⟩) (fun _ => br_t rfl (nm_r (nI_1 i) (hY post h)))
          exact tj_yAgr (fun h3 => absurd ⟨h1, h2, h3⟩ hA) (fun _ => br_t rfl (nm_r (nI_1 i) (hY post h)))
end
section
/-! ===== the reference's add, remove, pattern, each with a general post ===== -/
theorem tj_yAdd {post : Int32 → SY → Prop} {pc : Int32} {a py tr : Nat → Int32} {s p o : Int32} (hr : (¬ (tj_N s ∧ tj_N p ∧ tj_N o) ∨ tj_H a s p o ∨ tj_cn a 512 = 48) → post (-1) (pc, a, py, tr)) (hok : ∀ i j k, i < 8 → j < 8 → k < 8 → s = nI i → p = nI j → o = nI k → a (64 * i + 8 * j + k) = 0 → ¬ tj_cn a 512 = 48 → post (nI (tj_cn (upd a (64 * i + 8 * j + k) 1) 512)) (pc, upd a (64 * i + 8 * j + k) 1, py, tr)) : wpY_add post (pc, a, py, tr) s p o := by
  unfold wpY_add
  dsimp only
  refine tj_yHas (fun hH => br_t rfl (hr (Or.inr (Or.inl hH)))) (fun hH => br_f (by decide) ?_)
  refine tj_yOut (fun hs => br_t rfl ?_) (fun hs => br_f tj_10 (hr (Or.inl fun z => hs z.1)))
  refine tj_yOut (fun hp => br_t rfl ?_) (fun hp => br_f tj_10 (hr (Or.inl fun z => hp z.2.1)))
  refine tj_yOut (fun ho => br_t rfl ?_) (fun ho => br_f tj_10 (hr (Or.inl fun z => ho z.2.2)))
  obtain ⟨i, hi, rfl⟩ := tj_N_of hs
  obtain ⟨j, hj, rfl⟩ := tj_N_of hp
  obtain ⟨k, hk, rfl⟩ := tj_N_of ho
  have hx : 64 * i + 8 * j + k < 512 := by omega
  have hz : a (64 * i + 8 * j + k) = 0 := by
    by_cases z : a (64 * i + 8 * j + k) = 0
    · exact z
    · exact absurd ((tj_H_nI hi hj hk).mpr z) hH
  have hle := tj_cn_le a 512
  refine tj_yHeld ?_
  by_cases e : tj_cn a 512 = 48
  · exact br_t (by rw [e]; rfl) (hr (Or.inr (Or.inr e)))
  · refine br_f (fun w => e ((nI_eq (a := tj_cn a 512) (b := 48) (by omega) (by omega)).mp w)) ?_
    rw [tj_fy]
    refine ⟨vp_in_nI hx (by omega), ?_⟩
    rw [nI_clamp (by omega), tj_vb1]
    exact nm_e (tj_yHeld (hok i j k hi hj hk rfl rfl rfl hz e))
theorem tj_yRem {post : Int32 → SY → Prop} {pc : Int32} {a py tr : Nat → Int32} {s p o : Int32} (hr : ¬ tj_H a s p o → post (-1) (pc, a, py, tr)) (hok : ∀ i j k, i < 8 → j < 8 → k < 8 → s = nI i → p = nI j → o = nI k → ¬ a (64 * i + 8 * j + k) = 0 → post (nI (tj_cn (upd a (64 * i + 8 * j + k) 0) 512)) (pc, upd a (64 * i + 8 * j + k) 0, py, tr)) : wpY_remove post (pc, a, py, tr) s p o := by
  unfold wpY_remove
  dsimp only
  refine tj_yHas (fun hH => br_f tj_10 ?_) (fun hH => br_t rfl (hr hH))
  obtain ⟨i, j, k, hi, hj, hk, rfl, rfl, rfl, hz⟩ := hH
  have hx : 64 * i + 8 * j + k < 512 := by omega
  rw [tj_fy]
  refine ⟨vp_in_nI hx (by omega), ?_⟩
  rw [nI_clamp (by omega), tj_vb0]
  exact nm_e (tj_yHeld (hok i j k hi hj hk rfl rfl rfl hz))
theorem tj_yPat {post : Int32 → SY → Prop} {n : Nat} {a py tr : Nat → Int32} {s p o : Int32} (hn : n ≤ 4) (hr : ¬ (tj_L s ∧ tj_L p ∧ tj_L o ∧ n < 4) → post (-1) (nI n, a, py, tr)) (hok : tj_L s → tj_L p → tj_L o → n < 4 → post (nI (n + 1)) (nI (n + 1), a, upd (upd (upd py (3 * n) s) (3 * n + 1) p) (3 * n + 2) o, tr)) : wpY_pattern post (nI n, a, py, tr) s p o := by
  unfold wpY_pattern
  dsimp only
  by_cases h1 : s < -4
  · exact br_t h1 (hr fun z => z.1.1 h1)
  refine br_f h1 ?_
  by_cases h2 : 7 < s
  · exact br_t h2 (hr fun z => z.1.2 h2)
  refine br_f h2 ?_
  by_cases h3 : p < -4
  · exact br_t h3 (hr fun z => z.2.1.1 h3)
  refine br_f h3 ?_
  by_cases h4 : 7 < p
  · exact br_t h4 (hr fun z => z.2.1.2 h4)
  refine br_f h4 ?_
  by_cases h5 : o < -4
  · exact br_t h5 (hr fun z => z.2.2.1.1 h5)
  refine br_f h5 ?_
  by_cases h6 : 7 < o
  · exact br_t h6 (hr fun z => z.2.2.1.2 h6)
  refine br_f h6 ?_
  by_cases h7 : n = 4
  · exact br_t (by rw [h7]; rfl) (hr fun z => by omega)
  have hn4 : n < 4 := by omega
  have e0 : (3 : Int32) * nI n = nI (3 * n) := pk_mul 3 n
  have e1 : (3 : Int32) * nI n + 1 = nI (3 * n + 1) := by rw [e0]; exact nI_1 _
  have e2 : (3 : Int32) * nI n + 2 = nI (3 * n + 2) := by rw [e0]; exact nI_add _ 2
  have c0 : (nI (3 * n)).toNatClampNeg = 3 * n := nI_clamp (by omega)
  have c1 : (nI (3 * n + 1)).toNatClampNeg = 3 * n + 1 := nI_clamp (by omega)
  have c2 : (nI (3 * n + 2)).toNatClampNeg = 3 * n + 2 := nI_clamp (by omega)
  refine br_f (fun w => h7 ((nI_eq (a := n) (b := 4) (by omega) (by omega)).mp w)) ?_
  rw [e1, e2, e0, c0, c1, c2]
  exact ⟨vp_in_nI (by omega) (by omega), nm_e ⟨vp_in_nI (by omega) (by omega), nm_e ⟨vp_in_nI (by omega) (by omega), nm_e (nm_r (nI_1 n) (hok ⟨h1, h2⟩ ⟨h3, h4⟩ ⟨h5, h6⟩ hn4))⟩⟩⟩
/-! ===== the relation ===== -/
theorem tj_sb0 (pl : Nat → Nat) : tj_sb (tj_st pl (3 * 0)) = 0 := by
  show tj_s4 false false false false = 0
  decide
/-- the same facts and their number; the same places by ghost codes; the mask of the variables that stand -/
def i_Rel (_ : Nat) (u : SX) (v : SY) : Prop := ∃ (a ps pp po py tr : Nat → Int32) (pl : Nat → Nat) (n : Nat), tj_R pl n ps pp po py ∧ tj_cn a 512 ≤ 48 ∧ u = (nI (tj_cn a 512), nI n, tj_sb (tj_st pl (3 * n)), a, ps, pp, po) ∧ v = (nI n, a, py, tr)
theorem i_up {k : Nat} {u : SX} {v : SY} (h : i_Rel k u v) : i_Rel (k + 4) u v := h
theorem i_vc0 : wpX_init (fun u => wpY_init (fun v => i_Rel 0 u v)) := by
  refine ⟨fun _ => 0, fun _ => 0, fun _ => 0, fun _ => 0, fun _ => 0, fun _ => 0, fun _ => 4, 0, ⟨by omega, fun _ => (by decide : (4 : Nat) < 12), fun i hi => absurd hi (Nat.not_lt_zero i), fun j hj => absurd hj (by omega)⟩, by rw [tj_cn_0]; omega, ?_, rfl⟩
  rw [tj_cn_0, tj_sb0]
  rfl
theorem i_vc_add {k : Nat} {u : SX} {v : SY} (I : i_Rel k u v) (hk : k + 4 ≤ 2048) (v1 : Int32) (v2 : Int32) (v3 : Int32) : wpX_add (fun r u' => wpY_add (fun r' v' => r' = r ∧ i_Rel (k + 4) u' v') v v1 v2 v3) u v1 v2 v3 := by
  obtain ⟨a, ps, pp, po, py, tr, pl, n, R, hcn, rfl, rfl⟩ := I
  have keep : i_Rel (k + 4) (nI (tj_cn a 512), nI n, tj_sb (tj_st pl (3 * n)), a, ps, pp, po) (nI n, a, py, tr) := ⟨a, ps, pp, po, py, tr, pl, n, R, hcn, rfl, rfl⟩
  unfold wpX_add
  dsimp only
  refine tj_xFact (fun hs hp ho => br_f tj_10 ?_) (fun hn => br_t rfl (tj_yAdd (fun _ => ⟨rfl, keep⟩) (fun i j k hi hj hk e1 e2 e3 _ _ => absurd ⟨by rw [e1]; exact tj_N_nI hi, by rw [e2]; exact tj_N_nI hj, by rw [e3]; exact tj_N_nI hk⟩ hn)))
  obtain ⟨i, hi, rfl⟩ := tj_N_of hs
  obtain ⟨j, hj, rfl⟩ := tj_N_of hp
  obtain ⟨l, hl, rfl⟩ := tj_N_of ho
  have hx : 64 * i + 8 * j + l < 512 := by omega
  by_cases hc : tj_cn a 512 < 48
  · refine br_t (nI_lt (b := 48) hc (by omega)) (tj_xIdx hi hj hl ⟨vp_in_nI hx (by omega), ?_⟩)
    rw [nI_clamp (by omega)]
    by_cases z : a (64 * i + 8 * j + l) = 0
    · refine br_t z ⟨vp_in_nI hx (by omega), ?_⟩
      rw [tj_vb1]
      refine nm_e (nm_r (nI_1 _) ?_)
      have ec := tj_cn_add z tj_10 512 hx
      refine tj_yAdd (fun w => ?_) (fun i' j' l' hi' hj' hl' e1 e2 e3 _ _ => ?_)
      · rcases w with w | w | w
        · exact absurd ⟨tj_N_nI hi, tj_N_nI hj, tj_N_nI hl⟩ w
        · exact absurd z ((tj_H_nI hi hj hl).mp w)
        · omega
      · rw [nI_eq (by omega) (by omega)] at e1 e2 e3
        rw [← e1, ← e2, ← e3]
        exact ⟨by rw [ec], upd a (64 * i + 8 * j + l) 1, ps, pp, po, py, tr, pl, n, R, by omega, by rw [ec], rfl⟩
    · refine br_f z (tj_yAdd (fun _ => ⟨rfl, keep⟩) (fun i' j' l' hi' hj' hl' e1 e2 e3 z' _ => ?_))
      rw [nI_eq (by omega) (by omega)] at e1 e2 e3
      rw [← e1, ← e2, ← e3] at z'
      exact absurd z' z
  · exact br_f (nI_nlt (b := 48) (by omega) (by omega)) (tj_yAdd (fun _ => ⟨rfl, keep⟩) (fun i' j' l' hi' hj' hl' e1 e2 e3 _ h48 => by omega))
theorem i_vc_remove {k : Nat} {u : SX} {v : SY} (I : i_Rel k u v) (hk : k + 4 ≤ 2048) (v1 : Int32) (v2 : Int32) (v3 : Int32) : wpX_remove (fun r u' => wpY_remove (fun r' v' => r' = r ∧ i_Rel (k + 4) u' v') v v1 v2 v3) u v1 v2 v3 := by
  obtain ⟨a, ps, pp, po, py, tr, pl, n, R, hcn, rfl, rfl⟩ := I
  have keep : i_Rel (k + 4) (nI (tj_cn a 512), nI n, tj_sb (tj_st pl (3 * n)), a, ps, pp, po) (nI n, a, py, tr) := ⟨a, ps, pp, po, py, tr, pl, n, R, hcn, rfl, rfl⟩
  unfold wpX_remove
  dsimp only
  refine tj_xHeld (fun hH => br_f tj_10 ?_) (fun hH => br_t rfl (tj_yRem (fun _ => ⟨rfl, keep⟩) (fun i j l hi hj hl e1 e2 e3 z => absurd ⟨i, j, l, hi, hj, hl, e1, e2, e3, z⟩ hH)))
  obtain ⟨i, j, l, hi, hj, hl, rfl, rfl, rfl, z⟩ := hH
  have hx : 64 * i + 8 * j + l < 512 := by omega
  have ec := tj_cn_rem z 512 hx
  refine tj_xIdx hi hj hl ⟨vp_in_nI hx (by omega), ?_⟩
  rw [nI_clamp (by omega), tj_vb0]
  refine nm_e (nm_r (e' := nI (tj_cn (upd a (64 * i + 8 * j + l) 0) 512)) (by rw [← ec]; exact nI_pred _) ?_)
  refine tj_yRem (fun w => absurd ((tj_H_nI hi hj hl).mpr z) w) (fun i' j' l' hi' hj' hl' e1 e2 e3 _ => ?_)
  rw [nI_eq (by omega) (by omega)] at e1 e2 e3
  rw [← e1, ← e2, ← e3]
  exact ⟨rfl, upd a (64 * i + 8 * j + l) 0, ps, pp, po, py, tr, pl, n, R, by omega, rfl, rfl⟩
theorem i_vc_pattern {k : Nat} {u : SX} {v : SY} (I : i_Rel k u v) (hk : k + 4 ≤ 2048) (v1 : Int32) (v2 : Int32) (v3 : Int32) : wpX_pattern (fun r u' => wpY_pattern (fun r' v' => r' = r ∧ i_Rel (k + 4) u' v') v v1 v2 v3) u v1 v2 v3 := by
  obtain ⟨a, ps, pp, po, py, tr, pl, n, R, hcn, rfl, rfl⟩ := I
  have keep : i_Rel (k + 4) (nI (tj_cn a 512), nI n, tj_sb (tj_st pl (3 * n)), a, ps, pp, po) (nI n, a, py, tr) := ⟨a, ps, pp, po, py, tr, pl, n, R, hcn, rfl, rfl⟩
  have hn := R.1
  unfold wpX_pattern
  dsimp only
  refine tj_xPlace (fun hs => br_f tj_10 ?_) (fun hs => br_t rfl (tj_yPat hn (fun _ => ⟨rfl, keep⟩) (fun h _ _ _ => absurd h hs)))
  refine tj_xPlace (fun hp => br_f tj_10 ?_) (fun hp => br_t rfl (tj_yPat hn (fun _ => ⟨rfl, keep⟩) (fun _ h _ _ => absurd h hp)))
  refine tj_xPlace (fun ho => br_f tj_10 ?_) (fun ho => br_t rfl (tj_yPat hn (fun _ => ⟨rfl, keep⟩) (fun _ _ h _ => absurd h ho)))
  by_cases h4 : n < 4
  · have vn : vp_in (nI n) 4 := vp_in_nI h4 (by omega)
    have cn : (nI n).toNatClampNeg = n := nI_clamp (by omega)
    refine br_t (nI_lt (b := 4) h4 (by omega)) ⟨vn, ?_⟩
    rw [cn]
    refine nm_e ⟨vn, nm_e ⟨vn, nm_e (nm_r (nI_1 n) ?_)⟩⟩
    have hs' := hs
    have hp' := hp
    have ho' := ho
    obtain ⟨t1, ht1, rfl⟩ := tj_L_of hs
    obtain ⟨t2, ht2, rfl⟩ := tj_L_of hp
    obtain ⟨t3, ht3, rfl⟩ := tj_L_of ho
    refine tj_xBits ht1 (tj_xBits ht2 (tj_xBits ht3 (nm_r (tj_sb_pl pl (3 * n) t1 t2 t3) ?_)))
    refine tj_yPat hn (fun w => absurd ⟨hs', hp', ho', h4⟩ w) (fun _ _ _ _ => ⟨rfl, ?_⟩)
    refine ⟨a, upd ps n (tj_pI t1), upd pp n (tj_pI t2), upd po n (tj_pI t3), upd (upd (upd py (3 * n) (tj_pI t1)) (3 * n + 1) (tj_pI t2)) (3 * n + 2) (tj_pI t3), tr, tj_pl pl (3 * n) t1 t2 t3, n + 1, ⟨by omega, tj_pl_lt R.2.1 ht1 ht2 ht3, fun i hi => ?_, fun j hj => ?_⟩, hcn, rfl, rfl⟩
    · rcases Nat.lt_or_ge i n with w | w
      · rw [pk_un (by omega), pk_un (by omega), pk_un (by omega), tj_pl_o (by omega), tj_pl_o (by omega), tj_pl_o (by omega)]
        exact R.2.2.1 i w
      · have e : i = n := by omega
        rw [e, pk_us, pk_us, pk_us, tj_pl_0, tj_pl_1, tj_pl_2]
        exact ⟨rfl, rfl, rfl⟩
    · rcases Nat.lt_or_ge j (3 * n) with w | w
      · rw [pk_un (by omega), pk_un (by omega), pk_un (by omega), tj_pl_o w]
        exact R.2.2.2 j w
      · have h3 : j = 3 * n ∨ j = 3 * n + 1 ∨ j = 3 * n + 2 := by omega
        rcases h3 with e | e | e
        · rw [e, pk_un (by omega), pk_un (by omega), pk_us, tj_pl_0]
        · rw [e, pk_un (by omega), pk_us, tj_pl_1]
        · rw [e, pk_us, tj_pl_2]
  · exact br_f (nI_nlt (b := 4) (by omega) (by omega)) (tj_yPat hn (fun _ => ⟨rfl, keep⟩) (fun _ _ _ h => absurd h h4))
theorem i_vc_clear {k : Nat} {u : SX} {v : SY} (I : i_Rel k u v) (hk : k + 4 ≤ 2048) : wpX_clear (fun u' => wpY_clear (fun v' => i_Rel (k + 4) u' v') v) u := by
  obtain ⟨a, ps, pp, po, py, tr, pl, n, R, hcn, rfl, rfl⟩ := I
  refine ⟨a, ps, pp, po, py, tr, pl, 0, ⟨by omega, R.2.1, fun i hi => absurd hi (Nat.not_lt_zero i), fun j hj => absurd hj (by omega)⟩, hcn, ?_, rfl⟩
  rw [tj_sb0]
  rfl
end
section
theorem i_vc_solutions {k : Nat} {u : SX} {v : SY} (I : i_Rel k u v) (hk : k + 4 ≤ 2048) : wpX_solutions (fun r => wpY_solutions (fun r' v' => r' = r ∧ i_Rel (k + 4) u v') v) u := by
  obtain ⟨a, ps, pp, po, py, tr, pl, n, R, hcn, rfl, rfl⟩ := I
  obtain ⟨r, hX, hY⟩ := tj_loopSol (fc := nI (tj_cn a 512)) (a := a) R 4096 0 0 (by omega)
  have Y : wpY_solutions (fun r' v' => r' = r ∧ i_Rel (k + 4) (nI (tj_cn a 512), nI n, tj_sb (tj_st pl (3 * n)), a, ps, pp, po) v') (nI n, a, py, tr) := by
    unfold wpY_solutions
    exact ⟨4097, hY _ tr (fun tr' => ⟨rfl, a, ps, pp, po, py, tr', pl, n, R, hcn, rfl, rfl⟩)⟩
  unfold wpX_solutions
  exact ⟨4097, hX _ Y⟩
theorem i_vc_solution {k : Nat} {u : SX} {v : SY} (I : i_Rel k u v) (hk : k + 4 ≤ 2048) (v1 : Int32) (v2 : Int32) : wpX_solution (fun r => wpY_solution (fun r' v' => r' = r ∧ i_Rel (k + 4) u v') v v1 v2) u v1 v2 := by
  obtain ⟨a, ps, pp, po, py, tr, pl, n, R, hcn, rfl, rfl⟩ := I
  have keep : ∀ tr' : Nat → Int32, i_Rel (k + 4) (nI (tj_cn a 512), nI n, tj_sb (tj_st pl (3 * n)), a, ps, pp, po) (nI n, a, py, tr') := fun tr' => ⟨a, ps, pp, po, py, tr', pl, n, R, hcn, rfl, rfl⟩
  by_cases hS : tj_S pl n v2
  · have hS' := hS
    obtain ⟨t, ht, rfl, _⟩ := hS'
    obtain ⟨r, h0, hX, hY⟩ := tj_loopOne (fc := nI (tj_cn a 512)) (k := v1) (a := a) R ht 4096 0 0 (by omega) (by omega)
    have Y : ∀ r0, r = r0 → wpY_solution (fun r' v' => r' = r0 ∧ i_Rel (k + 4) (nI (tj_cn a 512), nI n, tj_sb (tj_st pl (3 * n)), a, ps, pp, po) v') (nI n, a, py, tr) v1 (tj_pI t) := by
      intro r0 e
      unfold wpY_solution
      dsimp only
      exact tj_yMissing R (fun _ => br_t rfl ⟨4097, hY _ tr (fun tr' => ⟨e, keep tr'⟩)⟩) (fun w => absurd hS w)
    unfold wpX_solution
    dsimp only
    by_cases hk0 : v1 < 0
    · exact br_t hk0 (Y _ (h0 hk0))
    · exact br_f hk0 (tj_xStands (fun _ => br_f tj_10 ⟨4097, hX _ (Y _ rfl)⟩) (fun w => absurd hS w))
  · have Y : wpY_solution (fun r' v' => r' = -1 ∧ i_Rel (k + 4) (nI (tj_cn a 512), nI n, tj_sb (tj_st pl (3 * n)), a, ps, pp, po) v') (nI n, a, py, tr) v1 v2 := by
      unfold wpY_solution
      dsimp only
      exact tj_yMissing R (fun w => absurd w hS) (fun _ => br_f tj_10 ⟨rfl, keep tr⟩)
    unfold wpX_solution
    dsimp only
    by_cases hk0 : v1 < 0
    · exact br_t hk0 Y
    · exact br_f hk0 (tj_xStands (fun w => absurd w hS) (fun _ => br_t rfl Y))
theorem i_vc_with {k : Nat} {u : SX} {v : SY} (I : i_Rel k u v) (hk : k + 4 ≤ 2048) (v1 : Int32) (v2 : Int32) : wpX_with (fun r => wpY_with (fun r' v' => r' = r ∧ i_Rel (k + 4) u v') v v1 v2) u v1 v2 := by
  obtain ⟨a, ps, pp, po, py, tr, pl, n, R, hcn, rfl, rfl⟩ := I
  have keep : ∀ tr' : Nat → Int32, i_Rel (k + 4) (nI (tj_cn a 512), nI n, tj_sb (tj_st pl (3 * n)), a, ps, pp, po) (nI n, a, py, tr') := fun tr' => ⟨a, ps, pp, po, py, tr', pl, n, R, hcn, rfl, rfl⟩
  by_cases hS : tj_S pl n v1
  · have hS' := hS
    obtain ⟨t, ht, rfl, _⟩ := hS'
    obtain ⟨m, _, _, _, hX, hY⟩ := tj_loopWith (fc := nI (tj_cn a 512)) (x := v2) (a := a) R ht 4096 0 0 (by omega)
    have Y : wpY_with (fun r' v' => r' = nI m ∧ i_Rel (k + 4) (nI (tj_cn a 512), nI n, tj_sb (tj_st pl (3 * n)), a, ps, pp, po) v') (nI n, a, py, tr) (tj_pI t) v2 := by
      unfold wpY_with
      dsimp only
      exact tj_yMissing R (fun _ => br_t rfl ⟨4097, hY _ tr (fun tr' => ⟨rfl, keep tr'⟩)⟩) (fun w => absurd hS w)
    unfold wpX_with
    dsimp only
    exact tj_xStands (fun _ => br_f tj_10 ⟨4097, hX _ Y⟩) (fun w => absurd hS w)
  · have Y : wpY_with (fun r' v' => r' = -1 ∧ i_Rel (k + 4) (nI (tj_cn a 512), nI n, tj_sb (tj_st pl (3 * n)), a, ps, pp, po) v') (nI n, a, py, tr) v1 v2 := by
      unfold wpY_with
      dsimp only
      exact tj_yMissing R (fun w => absurd w hS) (fun _ => br_f tj_10 ⟨rfl, keep tr⟩)
    unfold wpX_with
    dsimp only
    exact tj_xStands (fun w => absurd w hS) (fun _ => br_t rfl Y)
theorem i_vc_values {k : Nat} {u : SX} {v : SY} (I : i_Rel k u v) (hk : k + 4 ≤ 2048) (v1 : Int32) : wpX_values (fun r => wpY_values (fun r' v' => r' = r ∧ i_Rel (k + 4) u v') v v1) u v1 := by
  obtain ⟨a, ps, pp, po, py, tr, pl, n, R, hcn, rfl, rfl⟩ := I
  have keep : ∀ tr' : Nat → Int32, i_Rel (k + 4) (nI (tj_cn a 512), nI n, tj_sb (tj_st pl (3 * n)), a, ps, pp, po) (nI n, a, py, tr') := fun tr' => ⟨a, ps, pp, po, py, tr', pl, n, R, hcn, rfl, rfl⟩
  by_cases hS : tj_S pl n v1
  · have hS' := hS
    obtain ⟨t, ht, rfl, _⟩ := hS'
    obtain ⟨s, hb, hX⟩ := tj_loopSeen (fc := nI (tj_cn a 512)) (a := a) R ht 4096 0 0 (by omega)
    have hs : ∀ i, i < 8 → (bt s i = true ↔ tj_T a pl n t (nI i) 0) := by
      intro i hi
      rw [hb i hi, b_0]
      simp
    have hW : ∀ i, i < 8 → ∃ m : Nat, m ≤ 4096 ∧ (0 < m ↔ tj_T a pl n t (nI i) 0) ∧ ∀ (post : Int32 → SY → Prop) (tr : Nat → Int32), (∀ tr' : Nat → Int32, post (nI m) (nI n, a, py, tr')) → wpY_with post (nI n, a, py, tr) (tj_pI t) (nI i) := by
      intro i hi
      obtain ⟨m, _, m2, m3, _, hY⟩ := tj_loopWith (fc := 0) (x := nI i) (a := a) R ht 4096 0 0 (by omega)
      refine ⟨m, by omega, m3, fun post tr h => ?_⟩
      unfold wpY_with
      dsimp only
      exact tj_yMissing R (fun _ => br_t rfl ⟨4097, hY post tr h⟩) (fun w => absurd hS w)
    obtain ⟨r, hX2, hY2⟩ := tj_loopNum (fun i => tj_T a pl n t (nI i) 0) hs hW 8 0 0 (by omega)
    have hC : ∀ post : Int32 → Prop, post r → wpX_countNumbersIn post s := by
      intro post h
      unfold wpX_countNumbersIn
      exact ⟨9, hX2 post h⟩
    have Y : wpY_values (fun r' v' => r' = r ∧ i_Rel (k + 4) (nI (tj_cn a 512), nI n, tj_sb (tj_st pl (3 * n)), a, ps, pp, po) v') (nI n, a, py, tr) (tj_pI t) := by
      unfold wpY_values
      dsimp only
      exact tj_yMissing R (fun _ => br_t rfl ⟨9, hY2 _ tr (fun tr' => ⟨rfl, keep tr'⟩)⟩) (fun w => absurd hS w)
    unfold wpX_values
    dsimp only
    exact tj_xStands (fun _ => br_f tj_10 ⟨4097, hX _ (hC _ Y)⟩) (fun w => absurd hS w)
  · have Y : wpY_values (fun r' v' => r' = -1 ∧ i_Rel (k + 4) (nI (tj_cn a 512), nI n, tj_sb (tj_st pl (3 * n)), a, ps, pp, po) v') (nI n, a, py, tr) v1 := by
      unfold wpY_values
      dsimp only
      exact tj_yMissing R (fun w => absurd w hS) (fun _ => br_f tj_10 ⟨rfl, keep tr⟩)
    unfold wpX_values
    dsimp only
    exact tj_xStands (fun w => absurd w hS) (fun _ => br_t rfl Y)
theorem i_vc_count {k : Nat} {u : SX} {v : SY} (I : i_Rel k u v) (hk : k + 4 ≤ 2048) (v1 : Int32) (v2 : Int32) (v3 : Int32) : wpX_count (fun r => wpY_count (fun r' => r' = r ∧ i_Rel (k + 4) u v) v v1 v2 v3) u v1 v2 v3 := by
  obtain ⟨a, ps, pp, po, py, tr, pl, n, R, hcn, rfl, rfl⟩ := I
  have keep : i_Rel (k + 4) (nI (tj_cn a 512), nI n, tj_sb (tj_st pl (3 * n)), a, ps, pp, po) (nI n, a, py, tr) := ⟨a, ps, pp, po, py, tr, pl, n, R, hcn, rfl, rfl⟩
  obtain ⟨r, hX, hY⟩ := tj_loopCount (fc := nI (tj_cn a 512)) (pc := nI n) (pd := nI n) (sb := tj_sb (tj_st pl (3 * n))) (s := v1) (p := v2) (o := v3) (a := a) (ps := ps) (pp := pp) (po := po) (py := py) (tr := tr) 512 0 0 (by omega)
  have Y : wpY_count (fun r' => r' = r ∧ i_Rel (k + 4) (nI (tj_cn a 512), nI n, tj_sb (tj_st pl (3 * n)), a, ps, pp, po) (nI n, a, py, tr)) (nI n, a, py, tr) v1 v2 v3 := by
    unfold wpY_count
    exact ⟨513, hY _ ⟨rfl, keep⟩⟩
  unfold wpX_count
  exact ⟨513, hX _ Y⟩
theorem i_vc_has {k : Nat} {u : SX} {v : SY} (I : i_Rel k u v) (hk : k + 4 ≤ 2048) (v1 : Int32) (v2 : Int32) (v3 : Int32) : wpX_has (fun r => wpY_has (fun r' => r' = r ∧ i_Rel (k + 4) u v) v v1 v2 v3) u v1 v2 v3 := by
  obtain ⟨a, ps, pp, po, py, tr, pl, n, R, hcn, rfl, rfl⟩ := I
  have keep : i_Rel (k + 4) (nI (tj_cn a 512), nI n, tj_sb (tj_st pl (3 * n)), a, ps, pp, po) (nI n, a, py, tr) := ⟨a, ps, pp, po, py, tr, pl, n, R, hcn, rfl, rfl⟩
  unfold wpX_has
  dsimp only
  exact tj_xHeld (fun h => br_f tj_10 (tj_yHas (fun _ => ⟨rfl, keep⟩) (fun w => absurd h w))) (fun h => br_t rfl (tj_yHas (fun w => absurd w h) (fun _ => ⟨rfl, keep⟩)))
end
