-- ===== the bits of a mean =====
def hz_fnan (x : UInt32) : Bool := decide (x &&& 0x7fffffff ≤ 0x7f800000)
theorem hz_fnan_is {x : UInt32} (h : hz_fnan x = true) : vf_n32 x := by
  unfold vf_n32
  exact of_decide_eq_true h
def hz_ffin (ans : Int32) (p : UInt32) (e : Int32) : Bool := hz_fnan (FP.fsub p FP.fconst1) && (hz_fnan (FP.fmul (FP.fsub p FP.fconst1) 1258291200) && decide (ans = (e <<< ((23 : Int32) &&& 31)) + FP.f2i (FP.fmul (FP.fsub p FP.fconst1) 1258291200)))
def hz_fl (x y : UInt32) : Int32 := Op.cmpValue (FP.fcmp x y) .l
def hz_fg (x y : UInt32) : Int32 := Op.cmpValue (FP.fcmp x y) .g
def hz_fk (ans : Int32) : Nat → UInt32 → Int32 → Bool
  | 0, _, _ => false
  | m + 1, p, e => if hz_fl p FP.fconst2 < 0 then hz_ffin ans p e else if 254 ≤ e then hz_ffin ans p e else hz_fnan (FP.fdiv p FP.fconst2) && hz_fk ans m (FP.fdiv p FP.fconst2) (e + 1)
/-- the reference's way to the same bits -/
def hz_mt (n : Nat) : Nat → Nat → Nat → Nat × Nat
  | 0, t, k => (t, k)
  | m + 1, t, k => if t / n < 8388608 then hz_mt n m (2 * t) (k + 1) else (t, k)
def hz_mf (n : Nat) (q : Nat × Nat) : Nat := q.1 / n + (if q.1 % n * 2 > n ∨ (q.1 % n * 2 = n ∧ q.1 / n % 2 = 1) then 1 else 0)
def hz_mB (s n : Nat) : Int32 := if s = 0 then 0 else if hz_mf n (hz_mt n 40 s 0) = 16777216 then nI ((151 - (hz_mt n 40 s 0).2) * 8388608) else nI ((150 - (hz_mt n 40 s 0).2) * 8388608 + (hz_mf n (hz_mt n 40 s 0) - 8388608))
theorem hz_fk_is : ∀ n, n < 10 → ∀ j, j < 9 * n + 9 - n → 0 < hz_fg (hz_fv (n + 1 + j) (n + 1)) FP.fconst0 ∧ hz_fk (hz_mB (n + 1 + j) (n + 1)) 8 (hz_fv (n + 1 + j) (n + 1)) 127 = true := by decide +kernel
theorem hz_fk_0 : ¬ 0 < hz_fg FP.fconst0 FP.fconst0 := by decide +kernel
theorem x_bom0 (d : Nat) (h : hq_H) : hq_Met (d + 1) MX6_bitsOfMean [.inl (.float FP.fconst0)] h (hz_o 0) h := by
  refine inX6_bitsOfMean d FP.fconst0 h _ _ (fun _ => trivial) (fun J b0 b13 b36 => b0 _ _ _ ?_)
  exact hq_bf hz_fk_0 ⟨rfl, rfl⟩
theorem x_bom (d s n : Nat) (h : hq_H) (h0 : 1 ≤ n) (h1 : n ≤ 10) (h2 : n ≤ s) (h3 : s ≤ 9 * n) : hq_Met (d + 1) MX6_bitsOfMean [.inl (.float (hz_fv s n))] h (hz_o (hz_mB s n)) h := by
  refine inX6_bitsOfMean d (hz_fv s n) h _ _ (fun _ => trivial) (fun J b0 b13 b36 => b0 _ _ _ ?_)
  have q := hz_fk_is (n - 1) (by omega) (s - n) (by omega)
  rw [show n - 1 + 1 = n by omega, show n + (s - n) = s by omega] at q
  obtain ⟨g0, g1⟩ := q
  refine hq_bt g0 ?_
  generalize hz_mB s n = ans at *
  generalize hz_fv s n = x at *
  have fin : ∀ p e, hz_ffin ans p e = true → J 36 [some (.inl (.float x)), some (.inl (.float p)), some (hz_i e)] [] h := by
    intro p e z
    unfold hz_ffin at z
    rw [Bool.and_eq_true, Bool.and_eq_true] at z
    exact b36 _ _ _ ⟨hz_fnan_is z.1, hz_fnan_is z.2.1, hz_ri (of_decide_eq_true z.2.2), rfl⟩
  have loop : ∀ m p e, hz_fk ans m p e = true → J 13 [some (.inl (.float x)), some (.inl (.float p)), some (hz_i e)] [] h := by
    intro m
    induction m with
    | zero => intro p e z; cases z
    | succ m ih =>
      intro p e z
      have z : (if hz_fl p FP.fconst2 < 0 then hz_ffin ans p e else if 254 ≤ e then hz_ffin ans p e else hz_fnan (FP.fdiv p FP.fconst2) && hz_fk ans m (FP.fdiv p FP.fconst2) (e + 1)) = true := z
      refine b13 _ _ _ (hq_bc (fun c => ?_) (fun c => hq_bc (fun c2 => ?_) (fun c2 => ?_)))
      · rw [if_pos (show hz_fl p FP.fconst2 < 0 from c)] at z
        exact fin p e z
      · rw [if_neg (show ¬ hz_fl p FP.fconst2 < 0 from c), if_pos c2] at z
        exact fin p e z
      · rw [if_neg (show ¬ hz_fl p FP.fconst2 < 0 from c), if_neg c2, Bool.and_eq_true] at z
        exact ⟨hz_fnan_is z.1, ih _ _ z.2⟩
  exact loop 8 x 127 g1
