theorem ts_nf {x : Bool} (h : ¬ x = false) : x = true := by cases x <;> first | rfl | exact absurd rfl h
theorem ts_nt {x : Bool} (h : ¬ x = true) : x = false := by cases x <;> first | rfl | exact absurd rfl h
theorem ts_bit {w : Int64} {s : UInt64} {j : Nat} (hj : j < 64) (hs : s.toNat = j) : ((w.toUInt64 >>> s).toInt64 &&& 1) = 0 ↔ w.toBitVec.getLsbD j = false := by
  have e : (w.toUInt64 >>> s).toInt64.toBitVec = w.toBitVec >>> j := by
    apply BitVec.eq_of_toNat_eq
    show (w.toUInt64 >>> s).toNat = _
    rw [UInt64.toNat_shiftRight, hs, Nat.mod_eq_of_lt hj, BitVec.toNat_ushiftRight]
    rfl
  rw [← Int64.toBitVec_inj, Int64.toBitVec_and, e]
  show w.toBitVec >>> j &&& 1#64 = 0#64 ↔ _
  constructor
  · intro h
    have t := congrArg (fun x => x.getLsbD 0) h
    simpa using t
  · intro h
    apply BitVec.eq_of_getLsbD_eq
    intro i hi
    cases i with
    | zero => simp [h]
    | succ i => simp
theorem wb_c : ∀ k, k < 64 → ((nI k).toInt64 &&& 63) = lN k := by decide +kernel
theorem wb_cu : ∀ k, k < 64 → ((nI k).toInt64.toUInt64 &&& Int64.toUInt64 63) = UInt64.ofNat k := by decide +kernel
/-- a way is one of these ways -/
def hz_bl (x : Int64) (k : Nat) : Bool := x.toBitVec.getLsbD k
theorem hz_bl_sh {x : Int64} {k : Nat} (hk : k < 64) : ((x.toUInt64 >>> ((nI k).toInt64.toUInt64 &&& Int64.toUInt64 63)).toInt64 &&& 1) = 0 ↔ hz_bl x k = false := by
  rw [wb_cu k hk]
  exact ts_bit hk (by rw [UInt64.toNat_ofNat_of_lt' (by exact Nat.lt_trans hk (by decide))])
theorem hz_bl_or (x y : Int64) (k : Nat) : hz_bl (x ||| y) k = (hz_bl x k || hz_bl y k) := by
  unfold hz_bl
  rw [Int64.toBitVec_or, BitVec.getLsbD_or]
theorem hz_bl_and (x y : Int64) (k : Nat) : hz_bl (x &&& y) k = (hz_bl x k && hz_bl y k) := by
  unfold hz_bl
  rw [Int64.toBitVec_and, BitVec.getLsbD_and]
theorem hz_bl_m1 : ∀ k, k < 64 → hz_bl (-1) k = true := by decide +kernel
theorem hz_bl_0 (k : Nat) : hz_bl 0 k = false := by
  unfold hz_bl
  exact BitVec.getLsbD_zero
theorem hz_bl_not (x : Int64) {k : Nat} (hk : k < 64) : hz_bl (x ^^^ -1) k = !hz_bl x k := by
  have h := hz_bl_m1 k hk
  unfold hz_bl at h ⊢
  rw [Int64.toBitVec_xor, BitVec.getLsbD_xor, h, Bool.xor_true]
theorem hz_bl_one : ∀ j, j < 64 → ∀ k, k < 64 → hz_bl ((1 : Int64) <<< ((nI j).toInt64 &&& 63)) k = decide (k = j) := by decide +kernel
theorem hz_bl_ext {x y : Int64} (h : ∀ k, k < 64 → hz_bl x k = hz_bl y k) : x = y := by
  apply Int64.toBitVec_inj.mp
  apply BitVec.eq_of_getLsbD_eq
  intro i hi
  exact h i hi
theorem hz_bl_z (x : Int64) : x = 0 ↔ ∀ k, k < 64 → hz_bl x k = false := by
  refine ⟨fun h k _ => by rw [h]; exact hz_bl_0 k, fun h => hz_bl_ext (fun k hk => by rw [h k hk, hz_bl_0])⟩
theorem hz_bl_hwk (l e : Int32) (k : Nat) (hk : k < 64) : ∀ m, m ≤ 64 → hz_bl (hz_hwk l e m) k = (decide (k < m) && hz_hold l e (nI k))
  | 0, _ => by rw [show hz_hwk l e 0 = 0 from rfl, hz_bl_0]; rfl
  | m + 1, hm => by
    have ih := hz_bl_hwk l e k hk m (by omega)
    by_cases c : hz_hold l e (nI m) = true
    · rw [show hz_hwk l e (m + 1) = hz_hwk l e m ||| ((1 : Int64) <<< ((nI m).toInt64 &&& 63)) from if_pos c, hz_bl_or, ih, hz_bl_one m (by omega) k hk]
      by_cases e1 : k = m
      · subst e1
        rw [c, decide_eq_true (Nat.lt_succ_self k), decide_eq_true rfl, Bool.or_true]
        rfl
      · rw [decide_eq_false e1, Bool.or_false, show decide (k < m + 1) = decide (k < m) from decide_eq_decide.mpr (by omega)]
    · rw [show hz_hwk l e (m + 1) = hz_hwk l e m from if_neg c, ih]
      by_cases e1 : k = m
      · subst e1
        rw [(Bool.not_eq_true _).mp c, Bool.and_false, Bool.and_false]
      · rw [show decide (k < m + 1) = decide (k < m) from decide_eq_decide.mpr (by omega)]
theorem hz_bl_hw (l e : Int32) {k : Nat} (hk : k < 64) : hz_bl (hz_hw l e) k = hz_hold l e (nI k) := by
  unfold hz_hw
  rw [hz_bl_hwk l e k hk 64 (Nat.le_refl _), decide_eq_true hk, Bool.true_and]
/-- all below n -/
def hz_all (p : Nat → Bool) : Nat → Bool
  | 0 => true
  | k + 1 => hz_all p k && p k
theorem hz_all_iff {p : Nat → Bool} : ∀ {n : Nat}, hz_all p n = true ↔ ∀ k, k < n → p k = true
  | 0 => ⟨fun _ k hk => absurd hk (Nat.not_lt_zero k), fun _ => rfl⟩
  | n + 1 => by
    show (hz_all p n && p n) = true ↔ _
    rw [Bool.and_eq_true, hz_all_iff]
    refine ⟨fun ⟨a, b⟩ k hk => ?_, fun h => ⟨fun k hk => h k (by omega), h n (by omega)⟩⟩
    by_cases e : k = n
    · rw [e]; exact b
    · exact a k (by omega)
theorem hz_bl_ands (p : Nat → Bool) (v : Nat → Int64) {k : Nat} (hk : k < 64) : ∀ n, hz_bl (hz_and p v n) k = hz_all (fun i => !p i || hz_bl (v i) k) n
  | 0 => hz_bl_m1 k hk
  | n + 1 => by
    have ih := hz_bl_ands p v hk n
    cases c : p n with
    | true =>
      rw [hz_and_y c, hz_bl_and, ih]
      show _ = (hz_all _ n && (!p n || hz_bl (v n) k))
      rw [c]
      rfl
    | false =>
      rw [hz_and_n c, ih]
      show _ = (hz_all _ n && (!p n || hz_bl (v n) k))
      rw [c]
      show _ = (hz_all _ n && true)
      rw [Bool.and_true]
theorem hz_mk_0 {p : Nat → Bool} : ∀ {n : Nat}, hz_mk p n = 0 ↔ ∀ k, k < n → p k = false
  | 0 => ⟨fun _ k hk => absurd hk (Nat.not_lt_zero k), fun _ => rfl⟩
  | n + 1 => by
    have ih := hz_mk_0 (p := p) (n := n)
    have pp : 0 < 2 ^ n := Nat.two_pow_pos n
    refine ⟨fun h k hk => ?_, fun h => ?_⟩
    · have h : hz_mk p n + (if p n = true then 2 ^ n else 0) = 0 := h
      have h1 : hz_mk p n = 0 := by omega
      by_cases e : k = n
      · subst e
        cases c : p k with
        | false => rfl
        | true => rw [if_pos c] at h; omega
      · exact ih.mp h1 k (by omega)
    · rw [hz_mk_no (h n (by omega))]
      exact ih.mpr (fun k hk => h k (by omega))
/-- a way is peaceful just if nothing is broken in it -/
theorem hz_bl_peace (st : hz_St) {k : Nat} (hk : k < 64) : hz_bl (hz_peace st.2.1 st.1 st.2.2.2.1) k = decide (hz_broke st (nI k) = 0) := by
  unfold hz_peace
  rw [hz_bl_ands _ _ hk]
  by_cases c : hz_broke st (nI k) = 0
  · rw [decide_eq_true c]
    refine hz_all_iff.mpr (fun i hi => ?_)
    have c1 : hz_brk st.2.1 st.2.2.2.1 (nI k) i = false := hz_mk_0.mp c i hi
    unfold hz_brk at c1
    show (!hz_inF st.2.1 st.2.2.2.1 i || hz_bl (hz_held st.2.1 i) k) = true
    unfold hz_held hz_inF
    rw [hz_bl_hw _ _ hk]
    cases h1 : decide (st.2.1 i 4 ≤ st.2.2.2.1) with
    | false => rfl
    | true =>
      rw [h1, Bool.true_and] at c1
      cases h2 : hz_hold (st.2.1 i 0) (st.2.1 i 1) (nI k) with
      | true => rfl
      | false => rw [h2] at c1; cases c1
  · rw [decide_eq_false c]
    cases h : hz_all (fun i => !hz_inF st.2.1 st.2.2.2.1 i || hz_bl (hz_held st.2.1 i) k) st.1 with
    | false => rfl
    | true =>
      exfalso
      apply c
      refine hz_mk_0.mpr (fun i hi => ?_)
      have h1 := hz_all_iff.mp h i hi
      unfold hz_held hz_inF at h1
      rw [hz_bl_hw _ _ hk] at h1
      unfold hz_brk
      cases h2 : decide (st.2.1 i 4 ≤ st.2.2.2.1) with
      | false => rfl
      | true =>
        rw [h2] at h1
        rw [show hz_hold (st.2.1 i 0) (st.2.1 i 1) (nI k) = true by simpa using h1]
        rfl
/-- a set's ways -/
theorem hz_bl_stand (st : hz_St) (S : Nat) {k : Nat} (hk : k < 64) : hz_bl (hz_stand st S) k = hz_all (fun i => !S.testBit i || hz_hold (st.2.1 i 0) (st.2.1 i 1) (nI k)) st.1 := by
  unfold hz_stand
  rw [hz_bl_ands _ _ hk]
  congr 1
  funext i
  unfold hz_held
  rw [hz_bl_hw _ _ hk]
-- ===== small helpers of the class and of the JDK =====
theorem x_X6_hasWay (d k : Nat) (x : Int64) (h : hq_H) (hk : k < 64) : hq_Met (d + 1) MX6_hasWay [hz_l x, hz_i (nI k)] h (hz_o (hz_b (hz_bl x k))) h := by
  refine inX6_hasWay d x (nI k) h _ _ (fun _ => trivial) (fun J b0 => b0 _ _ _ ?_)
  refine hq_bc (fun c => ?_) (fun c => ?_)
  · exact ⟨Or.inl rfl, hz_rf ((hz_bl_sh hk).mp ((hz_cmp0 _).mp c)), rfl⟩
  · exact ⟨Or.inr rfl, hz_rb (ts_nf (fun z => c ((hz_cmp0 _).mpr ((hz_bl_sh hk).mpr z)))), rfl⟩
/-- a without b -/
def hz_dif (a b : Nat) : Nat := a ^^^ (a &&& b)
theorem hz_dif_bit (a b k : Nat) : (hz_dif a b).testBit k = (a.testBit k && !b.testBit k) := by
  unfold hz_dif
  rw [Nat.testBit_xor, Nat.testBit_and]
  cases a.testBit k <;> cases b.testBit k <;> rfl
theorem hz_dif_lt {a : Nat} (b : Nat) {n : Nat} (ha : a < 2 ^ n) : hz_dif a b < 2 ^ n := by
  unfold hz_dif
  exact Nat.xor_lt_two_pow ha (Nat.lt_of_le_of_lt Nat.and_le_left ha)
theorem hz_difN (a b : Nat) : nI a &&& (nI b ^^^ -1) = nI (hz_dif a b) := by
  apply Int32.toBitVec_inj.mp
  rw [Int32.toBitVec_and, Int32.toBitVec_xor]
  show BitVec.ofNat 32 a &&& (BitVec.ofNat 32 b ^^^ (-1 : Int32).toBitVec) = BitVec.ofNat 32 (hz_dif a b)
  apply BitVec.eq_of_getLsbD_eq
  intro i hi
  have h1 : (-1 : Int32).toBitVec.getLsbD i = true := (by decide : ∀ i, i < 32 → (-1 : Int32).toBitVec.getLsbD i = true) i hi
  rw [BitVec.getLsbD_and, BitVec.getLsbD_xor, h1, BitVec.getLsbD_ofNat, BitVec.getLsbD_ofNat, BitVec.getLsbD_ofNat, decide_eq_true hi, Bool.true_and, Bool.true_and, Bool.true_and, hz_dif_bit, Bool.xor_true]
theorem x_X6_isPartOf (d a b : Nat) (h : hq_H) (ha : a < 2 ^ 31) : hq_Met (d + 1) MX6_isPartOf [hz_i (nI a), hz_i (nI b)] h (hz_o (hz_b (decide (hz_dif a b = 0)))) h := by
  have hd := hz_dif_lt b ha
  refine inX6_isPartOf d (nI a) (nI b) h _ _ (fun _ => trivial) (fun J b0 => b0 _ _ _ ?_)
  have e : (nI a &&& (nI b ^^^ -1) = 0) ↔ hz_dif a b = 0 := by
    rw [hz_difN]
    exact nI_eq (a := hz_dif a b) (b := 0) (by omega) (by decide)
  refine hq_nc (fun c => ?_) (fun c => ?_)
  · exact ⟨Or.inl rfl, hz_rf (decide_eq_false (fun z => c (e.mpr z))), rfl⟩
  · exact ⟨Or.inr rfl, hz_rb (decide_eq_true (e.mp c)), rfl⟩
def hz_lb (b : Bool) : Int64 := match b with
  | true => 1
  | false => 0
def hz_cp (x y : Int32) : Int32 := if y ≤ x then (if x = y then 0 else 1) else -1
theorem x_compare (d : Nat) (x y : Int32) (h : hq_H) : hq_Met (d + 1) MJ6_compare_7cf53 [hz_i x, hz_i y] h (hz_o (hz_cp x y)) h := by
  refine inJ6_compare_7cf53 d x y h _ _ (fun _ => trivial) (fun J b0 => b0 _ _ _ ?_)
  unfold hz_cp
  refine hq_bc (fun c => ?_) (fun c => ?_)
  · rw [if_pos c]
    refine hq_nc (fun c2 => ?_) (fun c2 => ?_)
    · rw [if_neg c2]; exact ⟨rfl, rfl⟩
    · rw [if_pos c2]; exact ⟨rfl, rfl⟩
  · rw [if_neg c]
    exact ⟨rfl, rfl⟩
/-- how many bits a number has -/
def hz_pf : Nat → Nat → Nat
  | 0, _ => 0
  | f + 1, S => S % 2 + hz_pf f (S / 2)
def hz_pc (S : Nat) : Nat := hz_pf 11 S
def hz_jb (x : Int32) : Int32 :=
  have a := x - (((x.toUInt32 >>> ((1 : Int32).toUInt32 &&& Int32.toUInt32 31)).toInt32) &&& 1431655765)
  have b := (a &&& 858993459) + (((a.toUInt32 >>> ((2 : Int32).toUInt32 &&& Int32.toUInt32 31)).toInt32) &&& 858993459)
  have c := (b + (b.toUInt32 >>> ((4 : Int32).toUInt32 &&& Int32.toUInt32 31)).toInt32) &&& 252645135
  have e := c + (c.toUInt32 >>> ((8 : Int32).toUInt32 &&& Int32.toUInt32 31)).toInt32
  have f := e + (e.toUInt32 >>> ((16 : Int32).toUInt32 &&& Int32.toUInt32 31)).toInt32
  f &&& 63
theorem hz_jb_is : ∀ S, S < 1024 → hz_jb (nI S) = nI (hz_pc S) := by decide +kernel
theorem x_bitCount (d S : Nat) (h : hq_H) (hS : S < 1024) : hq_Met (d + 1) MJ6_bitCount_0f7a4 [hz_i (nI S)] h (hz_o (nI (hz_pc S))) h := by
  rw [← hz_jb_is S hS]
  refine inJ6_bitCount_0f7a4 d (nI S) h _ _ (fun _ => trivial) (fun J b0 => b0 _ _ _ ?_)
  exact ⟨rfl, rfl⟩
