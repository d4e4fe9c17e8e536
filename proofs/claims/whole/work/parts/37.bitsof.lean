-- ===== the bits of a share =====
def hz_cmp (x y : UInt64) : Int32 := Op.cmpValue (FP.dcmp x y) .g
def hz_nan (x : UInt64) : Bool := decide (x &&& 0x7fffffffffffffff ≤ 0x7ff0000000000000)
theorem hz_nan_is {x : UInt64} (h : hz_nan x = true) : vf_n64 x := by
  unfold vf_n64
  exact of_decide_eq_true h
def hz_sfin (ans : Int64) (p : UInt64) (e : Int64) : Bool := hz_nan (FP.dsub p FP.dconst1) && (hz_nan (FP.dmul (FP.dsub p FP.dconst1) 4841369599423283200) && decide (ans = (e <<< ((52 : Int32).toInt64 &&& 63)) + FP.d2l (FP.dmul (FP.dsub p FP.dconst1) 4841369599423283200)))
def hz_sk (ans : Int64) : Nat → UInt64 → Int64 → Bool
  | 0, _, _ => false
  | m + 1, p, e => if 0 ≤ hz_cmp p FP.dconst1 then hz_sfin ans p e else if lg_cmp e 1 ≤ 0 then hz_sfin ans p e else hz_nan (FP.dmul p 4611686018427387904) && hz_sk ans m (FP.dmul p 4611686018427387904) (e - 1)
/-- the reference's way to the same bits -/
def hz_sf : Nat → Int64 → Int32 → Int64 × Int32
  | 0, f, s => (f, s)
  | m + 1, f, s => if f < 4503599627370496 then hz_sf m (2 * f) (s + 1) else (f, s)
def hz_sB (n : Nat) : Int64 := if n = 0 then 0 else (1075 - (hz_sf 60 (lN n) 6).2).toInt64 * 4503599627370496 + ((hz_sf 60 (lN n) 6).1 - 4503599627370496)
theorem hz_sk_is : ∀ n, n < 64 → 0 < hz_cmp (hz_dv (n + 1)) FP.dconst0 ∧ hz_sk (hz_sB (n + 1)) 8 (hz_dv (n + 1)) 1023 = true := by decide +kernel
theorem hz_sk_0 : ¬ 0 < hz_cmp (hz_dv 0) FP.dconst0 := by decide +kernel
theorem x_bos (d n : Nat) (h : hq_H) (hn : n ≤ 64) : hq_Met (d + 1) MX6_bitsOfShare [.inl (.double (hz_dv n))] h (hz_ol (hz_sB n)) h := by
  refine inX6_bitsOfShare d (hz_dv n) h _ _ (fun _ => trivial) (fun J b0 b15 b43 => b0 _ _ _ ?_)
  cases n with
  | zero => exact hq_bf hz_sk_0 ⟨rfl, rfl⟩
  | succ n =>
    obtain ⟨g0, g1⟩ := hz_sk_is n (by omega)
    refine hq_bt g0 ?_
    generalize hz_sB (n + 1) = ans at *
    generalize hz_dv (n + 1) = x at *
    have fin : ∀ p e, hz_sfin ans p e = true → J 43 [some (.inl (.double x)), none, some (.inl (.double p)), none, some (hz_l e), none] [] h := by
      intro p e z
      unfold hz_sfin at z
      rw [Bool.and_eq_true, Bool.and_eq_true] at z
      exact b43 _ _ _ ⟨hz_nan_is z.1, hz_nan_is z.2.1, hz_rl (of_decide_eq_true z.2.2), rfl⟩
    have loop : ∀ m p e, hz_sk ans m p e = true → J 15 [some (.inl (.double x)), none, some (.inl (.double p)), none, some (hz_l e), none] [] h := by
      intro m
      induction m with
      | zero => intro p e z; cases z
      | succ m ih =>
        intro p e z
        have z : (if 0 ≤ hz_cmp p FP.dconst1 then hz_sfin ans p e else if lg_cmp e 1 ≤ 0 then hz_sfin ans p e else hz_nan (FP.dmul p 4611686018427387904) && hz_sk ans m (FP.dmul p 4611686018427387904) (e - 1)) = true := z
        refine b15 _ _ _ (hq_bc (fun c => ?_) (fun c => hq_bc (fun c2 => ?_) (fun c2 => ?_)))
        · rw [if_pos (show 0 ≤ hz_cmp p FP.dconst1 from c)] at z
          exact fin p e z
        · rw [if_neg (show ¬ 0 ≤ hz_cmp p FP.dconst1 from c), if_pos c2] at z
          exact fin p e z
        · rw [if_neg (show ¬ 0 ≤ hz_cmp p FP.dconst1 from c), if_neg c2, Bool.and_eq_true] at z
          exact ⟨hz_nan_is z.1, ih _ _ z.2⟩
    exact loop 8 x 1023 g1
