/-! numbers of truth, rules, masks: the words of both sides -/
def hz_b (b : Bool) : Int32 := match b with
  | true => 1
  | false => 0
def hz_hold (l e w : Int32) : Bool := !decide (l &&& w = 0) || !decide (e &&& (w ^^^ -1) = 0)
def hz_lostAll (l e L E : Int32) : Bool := decide (l &&& (E ^^^ -1) = 0) && decide (e &&& (L ^^^ -1) = 0)
theorem hz_ri {x y : Int32} (h : x = y) : (.inl (some (.inl (.int x))) : hq_R) = .inl (some (.inl (.int y))) := by rw [h]
theorem hz_rl {x y : Int64} (h : x = y) : (.inl (some (.inl (.long x))) : hq_R) = .inl (some (.inl (.long y))) := by rw [h]
theorem hz_rb {b : Bool} (h : b = true) : (.inl (some (.inl (.int (hz_b b)))) : hq_R) = .inl (some (.inl (.int 1))) := by rw [h]; rfl
theorem hz_rf {b : Bool} (h : b = false) : (.inl (some (.inl (.int (hz_b b)))) : hq_R) = .inl (some (.inl (.int 0))) := by rw [h]; rfl
abbrev hz_i (x : Int32) : hq_V := .inl (.int x)
abbrev hz_l (x : Int64) : hq_V := .inl (.long x)
abbrev hz_o (x : Int32) : hq_R := .inl (some (.inl (.int x)))
abbrev hz_ol (x : Int64) : hq_R := .inl (some (.inl (.long x)))
abbrev hz_v : hq_R := .inl none
theorem hz_le {x y : Int32} {a b : Nat} (hx : x = nI a) (hy : y = nI b) (h : a ≤ b) (hb : b < 2 ^ 31) : x ≤ y := by rw [hx, hy]; exact nI_le h hb
theorem hz_nle {x y : Int32} {a b : Nat} (hx : x = nI a) (hy : y = nI b) (h : b < a) (ha : a < 2 ^ 31) : ¬ x ≤ y := by rw [hx, hy]; exact nI_ge h ha
theorem hz_lt {x y : Int32} {a b : Nat} (hx : x = nI a) (hy : y = nI b) (h : a < b) (hb : b < 2 ^ 31) : x < y := by rw [hx, hy]; exact nI_lt h hb
theorem hz_nlt {x y : Int32} {a b : Nat} (hx : x = nI a) (hy : y = nI b) (h : b ≤ a) (ha : a < 2 ^ 31) : ¬ x < y := by rw [hx, hy]; exact nI_nlt h ha
theorem hz_ne {x y : Int32} {a b : Nat} (hx : x = nI a) (hy : y = nI b) (h : a ≠ b) (ha : a < 2 ^ 31) (hb : b < 2 ^ 31) : ¬ x = y := by rw [hx, hy, nI_eq ha hb]; exact h
/-- the mask of those below n for which p says yes -/
def hz_mk (p : Nat → Bool) : Nat → Nat
  | 0 => 0
  | k + 1 => hz_mk p k + (if p k = true then 2 ^ k else 0)
theorem hz_mk_lt (p : Nat → Bool) : ∀ n, hz_mk p n < 2 ^ n
  | 0 => Nat.lt_succ_self 0
  | n + 1 => by
    have h := hz_mk_lt p n
    show hz_mk p n + (if p n = true then 2 ^ n else 0) < 2 ^ (n + 1)
    rw [Nat.pow_succ]
    split <;> omega
theorem hz_mk_no {p : Nat → Bool} {k : Nat} (h : p k = false) : hz_mk p (k + 1) = hz_mk p k := by
  show hz_mk p k + (if p k = true then 2 ^ k else 0) = _
  rw [h]; rfl
theorem hz_mk_yes {p : Nat → Bool} {k : Nat} (h : p k = true) : hz_mk p (k + 1) = hz_mk p k ||| 2 ^ k := by
  show hz_mk p k + (if p k = true then 2 ^ k else 0) = _
  rw [h, if_pos rfl, Nat.add_comm, Nat.or_comm]
  have := Nat.two_pow_add_eq_or_of_lt (hz_mk_lt p k) 1
  rw [Nat.mul_one] at this
  exact this
theorem hz_mk_bit (p : Nat → Bool) (k : Nat) : ∀ n, (hz_mk p n).testBit k = (decide (k < n) && p k)
  | 0 => by simp [hz_mk]
  | n + 1 => by
    have ih := hz_mk_bit p k n
    cases hp : p n with
    | true =>
      rw [hz_mk_yes hp, Nat.testBit_or, ih, Nat.testBit_two_pow]
      by_cases h1 : k = n
      · subst h1
        simp [hp]
      · have h2 : decide (k < n + 1) = decide (k < n) := by
          apply decide_eq_decide.mpr
          omega
        rw [h2]
        have h3 : decide (n = k) = false := decide_eq_false (fun z => h1 z.symm)
        rw [h3, Bool.or_false]
    | false =>
      rw [hz_mk_no hp, ih]
      by_cases h1 : k = n
      · subst h1
        simp [hp]
      · have h2 : decide (k < n + 1) = decide (k < n) := by
          apply decide_eq_decide.mpr
          omega
        rw [h2]
theorem hz_mk_cong {p q : Nat → Bool} : ∀ {n : Nat}, (∀ k, k < n → p k = q k) → hz_mk p n = hz_mk q n
  | 0, _ => rfl
  | n + 1, h => by
    show hz_mk p n + (if p n = true then 2 ^ n else 0) = hz_mk q n + (if q n = true then 2 ^ n else 0)
    rw [hz_mk_cong (fun k hk => h k (by omega)), h n (by omega)]
theorem hz_pw {k : Nat} (hk : k < 31) : (1 : Int32) <<< (nI k &&& 31) = nI (2 ^ k) := by
  have h := pk_shlN (n := 1) (nI k &&& 31) k ?_ ?_
  · rw [Nat.one_mul] at h
    exact h
  · exact (by decide : ∀ k, k < 31 → ((nI k &&& 31).toBitVec.smod 32).toNat = k) k hk
  · rw [Nat.one_mul]
    exact Nat.pow_lt_pow_right (by decide) (by omega)
theorem hz_orN (a b : Nat) : nI a ||| nI b = nI (a ||| b) := by
  apply Int32.toBitVec_inj.mp
  rw [Int32.toBitVec_or]
  show BitVec.ofNat 32 a ||| BitVec.ofNat 32 b = BitVec.ofNat 32 (a ||| b)
  apply BitVec.eq_of_toNat_eq
  rw [BitVec.toNat_or, BitVec.toNat_ofNat, BitVec.toNat_ofNat, BitVec.toNat_ofNat]
  apply Nat.eq_of_testBit_eq
  intro i
  simp only [Nat.testBit_or, Nat.testBit_mod_two_pow]
  cases decide (i < 32) <;> simp
theorem hz_mk_or {p : Nat → Bool} {k : Nat} (hk : k < 31) (h : p k = true) : nI (hz_mk p k) ||| ((1 : Int32) <<< (nI k &&& 31)) = nI (hz_mk p (k + 1)) := by
  rw [hz_pw hk, hz_orN, hz_mk_yes h]
theorem hz_bitN {S k : Nat} (hS : S < 2 ^ 31) (hk : k < 31) : (nI S >>> (nI k &&& 31)) &&& 1 = nI (hz_b (S.testBit k)).toNatClampNeg := by
  rw [pk_shrN hS (nI k &&& 31) k ((by decide : ∀ k, k < 31 → ((nI k &&& 31).toBitVec.smod 32).toNat = k) k hk)]
  have h1 : S / 2 ^ k < 2 ^ 31 := Nat.lt_of_le_of_lt (Nat.div_le_self _ _) hS
  rw [pk_andN (n := S / 2 ^ k) (by omega) (m := 1) 1 (by decide)]
  rw [Nat.testBit_eq_decide_div_mod_eq]
  have h2 : S / 2 ^ k % 2 ^ 1 = 0 ∨ S / 2 ^ k % 2 ^ 1 = 1 := by omega
  rcases h2 with h2 | h2
  · rw [h2]; rfl
  · rw [h2]; rfl
theorem hz_bit0 {S k : Nat} (hS : S < 2 ^ 31) (hk : k < 31) (h : S.testBit k = false) : (nI S >>> (nI k &&& 31)) &&& 1 = 0 := by
  rw [hz_bitN hS hk, h]; rfl
theorem hz_bit1 {S k : Nat} (hS : S < 2 ^ 31) (hk : k < 31) (h : S.testBit k = true) : (nI S >>> (nI k &&& 31)) &&& 1 = 1 := by
  rw [hz_bitN hS hk, h]; rfl
theorem hz_bitn {S k : Nat} (hS : S < 2 ^ 31) (hk : k < 31) (h : S.testBit k = true) : ¬ (nI S >>> (nI k &&& 31)) &&& 1 = 0 := by
  rw [hz_bit1 hS hk h]; decide
/-- the sum of v over those below n for which p says yes; the ways in common -/
def hz_sum (p : Nat → Bool) (v : Nat → Int32) : Nat → Int32
  | 0 => 0
  | k + 1 => if p k = true then hz_sum p v k + v k else hz_sum p v k
theorem hz_sum_y {p : Nat → Bool} {v : Nat → Int32} {k : Nat} (h : p k = true) : hz_sum p v (k + 1) = hz_sum p v k + v k := if_pos h
theorem hz_sum_n {p : Nat → Bool} {v : Nat → Int32} {k : Nat} (h : p k = false) : hz_sum p v (k + 1) = hz_sum p v k := if_neg (by rw [h]; decide)
theorem hz_sum_cong {p q : Nat → Bool} {v w : Nat → Int32} : ∀ {n : Nat}, (∀ k, k < n → p k = q k ∧ v k = w k) → hz_sum p v n = hz_sum q w n
  | 0, _ => rfl
  | n + 1, h => by
    show (if p n = true then hz_sum p v n + v n else hz_sum p v n) = (if q n = true then hz_sum q w n + w n else hz_sum q w n)
    rw [hz_sum_cong (fun k hk => h k (by omega)), (h n (by omega)).1, (h n (by omega)).2]
def hz_and (p : Nat → Bool) (v : Nat → Int64) : Nat → Int64
  | 0 => -1
  | k + 1 => if p k = true then hz_and p v k &&& v k else hz_and p v k
theorem hz_and_y {p : Nat → Bool} {v : Nat → Int64} {k : Nat} (h : p k = true) : hz_and p v (k + 1) = hz_and p v k &&& v k := if_pos h
theorem hz_and_n {p : Nat → Bool} {v : Nat → Int64} {k : Nat} (h : p k = false) : hz_and p v (k + 1) = hz_and p v k := if_neg (by rw [h]; decide)
theorem hz_and_cong {p q : Nat → Bool} {v w : Nat → Int64} : ∀ {n : Nat}, (∀ k, k < n → p k = q k ∧ v k = w k) → hz_and p v n = hz_and q w n
  | 0, _ => rfl
  | n + 1, h => by
    show (if p n = true then hz_and p v n &&& v n else hz_and p v n) = (if q n = true then hz_and q w n &&& w n else hz_and q w n)
    rw [hz_and_cong (fun k hk => h k (by omega)), (h n (by omega)).1, (h n (by omega)).2]
/-- rules as a table: number, attribute (let, empty, fine, strict, from, sum) -/
abbrev hz_R : Type := Nat → Nat → Int32
def hz_inF (R : hz_R) (day : Int32) : Nat → Bool := fun k => decide (R k 4 ≤ day)
def hz_brk (R : hz_R) (day way : Int32) : Nat → Bool := fun k => decide (R k 4 ≤ day) && !hz_hold (R k 0) (R k 1) way
def hz_lost (R : hz_R) (S : Nat) (L E : Int32) : Nat → Bool := fun k => S.testBit k && hz_lostAll (R k 0) (R k 1) L E
def hz_price (R : hz_R) : Nat → Int32 := fun k => R k 2
/-- the ways in which a rule holds, bit by bit -/
def hz_hwk (l e : Int32) : Nat → Int64
  | 0 => 0
  | k + 1 => if hz_hold l e (nI k) = true then hz_hwk l e k ||| ((1 : Int64) <<< ((nI k).toInt64 &&& 63)) else hz_hwk l e k
def hz_hw (l e : Int32) : Int64 := hz_hwk l e 64
def hz_held (R : hz_R) : Nat → Int64 := fun k => hz_hw (R k 0) (R k 1)
/-- a state: how many rules, the rules, the way of letting, the day, the fines night by night, those of the withdrawn -/
abbrev hz_St : Type := Nat × hz_R × Int32 × Int32 × Int32 × Int32
/-- the house j of the class holds the state -/
def hz_HC (h : hq_H) (j : Nat) (st : hz_St) : Prop := h.1 0 j 2 = nI st.1 ∧ h.1 0 j 3 = st.2.2.1 ∧ h.1 0 j 4 = st.2.2.2.1 ∧ h.1 0 j 5 = st.2.2.2.2.1 ∧ h.1 0 j 6 = st.2.2.2.2.2 ∧
  ∀ k, k < st.1 → (∀ a, a < 6 → h.1 1 (11 * j + k) a = st.2.1 k a) ∧ h.2 1 (11 * j + k) 6 = hz_held st.2.1 k
/-- the slot q of the reference's row holds the state -/
def hz_HM (h : hq_H) (q : Nat) (st : hz_St) : Prop := h.1 14 0 (65 * q) = nI st.1 ∧ h.1 14 0 (65 * q + 1) = st.2.2.1 ∧ h.1 14 0 (65 * q + 2) = st.2.2.2.1 ∧ h.1 14 0 (65 * q + 3) = st.2.2.2.2.1 ∧ h.1 14 0 (65 * q + 4) = st.2.2.2.2.2 ∧
  ∀ k, k < st.1 → ∀ a, a < 6 → h.1 14 0 (65 * q + (5 + 6 * k + a)) = st.2.1 k a
