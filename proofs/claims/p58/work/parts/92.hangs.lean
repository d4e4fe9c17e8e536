-- ===== what the law holds of all numbers: rules one by one =====
/-- what holds of each state that the law comes to -/
def hI (i : Nat) (st : hz_St) : Prop := st.2.2.2.2.1 = hz_acc st.2.1 st.2.2.2.2.2 st.1 ∧ (∃ d, d ≤ 8 * i ∧ st.2.2.2.1 = nI d) ∧ ∀ k, k < st.1 → ∃ f, f ≤ 8 * i + 30 ∧ st.2.1 k 4 = nI f
theorem hI_wd {i : Nat} (hi : i ≤ 100) {st : hz_St} (I : hI i st) {k : Nat} (hk : k < st.1) : hz_wd (st.2.1 k 4 - st.2.2.2.1) = 0 ↔ hz_inF st.2.1 st.2.2.2.1 k = true := by
  obtain ⟨-, ⟨d, hd, e1⟩, h3⟩ := I
  obtain ⟨f, hf, e2⟩ := h3 k hk
  unfold hz_inF hz_wd
  rw [decide_eq_true_iff, e1, e2]
  by_cases c : f ≤ d
  · refine ⟨fun _ => nI_le c (by omega), fun _ => if_neg (fun z => ?_)⟩
    by_cases q : f = d
    · rw [q, Int32.sub_self] at z
      exact absurd z (by decide)
    · have n := pk_sneg (a := f) (b := d) (by omega) (by omega)
      exact absurd (Int32.lt_trans z n) (by decide)
  · have e3 : nI f - nI d = nI (f - d) := pk_sub (by omega)
    have p : 0 < nI (f - d) := nI_lt (a := 0) (b := f - d) (by omega) (by omega)
    rw [e3, if_pos p]
    refine ⟨fun z => ?_, fun z => absurd z (nI_ge (by omega) (by omega))⟩
    rw [z] at p
    exact absurd p (by decide)
abbrev hg_l (y F B fl ok k : Int32) (v7 v8 v9 v10 v11 : Option hq_V) : hq_L := [some (.inr (3, 0)), some (hz_i y), some (hz_i F), some (hz_i B), some (hz_i fl), some (hz_i ok), some (hz_i k), v7, v8, v9, v10, v11]
abbrev hg_F (st : hz_St) : Int32 := nI (hz_force st)
abbrev hg_B (st : hz_St) : Int32 := nI (hz_broke st st.2.2.1)
abbrev hg_f (st : hz_St) (k : Nat) : Bool := hz_inF st.2.1 st.2.2.2.1 k
abbrev hg_h (st : hz_St) (k : Nat) : Bool := hz_hold (st.2.1 k 0) (st.2.1 k 1) st.2.2.1
theorem hg_Bbit (st : hz_St) {k : Nat} (hk : k < st.1) : (hz_broke st st.2.2.1).testBit k = (hg_f st k && !hg_h st k) := by
  unfold hz_broke
  rw [hz_mk_bit, decide_eq_true hk, Bool.true_and]
  rfl
theorem v_holdsNow {h : hq_H} {w : hz_W} (R : hz_RC h w) {k : Nat} (hk : k < w.1.1) : hq_MetW 0 20 ML_holds (some hhL_holds) hq_X0 [.inr (3, 0), hz_i (nI k), hz_i w.1.2.2.1] h (hz_o (hz_b (hg_h w.1 k))) h := by
  obtain ⟨g1, g2⟩ := hz_g_is R.2.1
  have m := v_holds R hk g2
  rw [← g1] at m
  exact m
theorem hg_144 {J : Nat → hq_C} {h : hq_H} (b144 : (∀ (ls_ : hq_L) (st_ : List hq_V) (h_ : hq_H), (hk_icmp_ne (hk_iconst 0 (hk_istore 5 (hk_iinc 6 1 (hk_goto (J 42))))) (hk_aload 0 (hk_iload 6 (hk_h2 20 ML_let (some hhL_let) (hk_aload 0 (hk_iload 6 (hk_h2 20 ML_empty (some hhL_empty) (hk_iand (hk_if_ne (hk_iconst 0 (hk_istore 5 (hk_iinc 6 1 (hk_goto (J 42))))) (hk_aload 0 (hk_iload 6 (hk_h2 20 ML_let (some hhL_let) (hk_aload 0 (hk_iload 6 (hk_h2 20 ML_empty (some hhL_empty) (hk_ior (hk_if_le (hk_iconst 0 (hk_istore 5 (hk_iinc 6 1 (hk_goto (J 42))))) (hk_aload 0 (hk_iload 6 (hk_h2 20 ML_follows (some hhL_follows) (hk_aload 0 (hk_iload 6 (hk_h2 20 ML_comes (some hhL_comes) (hk_icmp_ne (hk_iconst 0 (hk_istore 5 (hk_iinc 6 1 (hk_goto (J 42))))) (hk_iconst 1 (hk_goto (hk_istore 5 (hk_iinc 6 1 (hk_goto (J 42)))))))))))))))))))))))))))))) ls_ st_ h_ → J 144 ls_ st_ h_)) {w : hz_W} (R : hz_RC h w) {k : Nat} (hk : k < w.1.1) (y fl a b : Int32) (v7 : Option hq_V) (e : b = a) (ih : J 42 (hg_l y (hg_F w.1) (hg_B w.1) fl 1 (nI k + 1) v7 none none none none) [] h) : J 144 (hg_l y (hg_F w.1) (hg_B w.1) fl 1 (nI k) v7 none none none none) [hz_i a, hz_i b] h := by
  obtain ⟨⟨l, e, hl, he, hL, hE, le, lo⟩, -, -⟩ := R.2.1.2.2 k hk
  have an : w.1.2.1 k 0 &&& w.1.2.1 k 1 = 0 := by rw [hL, hE, hz_andN, le]; rfl
  have on : ¬ (w.1.2.1 k 0 ||| w.1.2.1 k 1) ≤ 0 := by
    have l6 : l ||| e < 2 ^ 6 := Nat.or_lt_two_pow (by omega) (by omega)
    rw [hL, hE, hz_orN]
    exact nI_ge (a := 0) (b := l ||| e) (by omega) (by omega)
  refine b144 _ _ _ (hq_nf (by assumption) ?_)
  refine ⟨_, _, v_let R hk, ?_⟩
  refine ⟨_, _, v_empty R hk, ?_⟩
  refine hq_nf an ?_
  refine ⟨_, _, v_let R hk, ?_⟩
  refine ⟨_, _, v_empty R hk, ?_⟩
  refine hq_bf on ?_
  refine ⟨_, _, v_follows R hk, ?_⟩
  refine ⟨_, _, v_comes R hk, ?_⟩
  exact hq_nf rfl ih
theorem hg_114 {J : Nat → hq_C} {h : hq_H} (b114 : (∀ (ls_ : hq_L) (st_ : List hq_V) (h_ : hq_H), (hk_icmp_ne (hk_iconst 0 (hk_istore 5 (hk_iinc 6 1 (hk_goto (J 42))))) (hk_iload 3 (hk_iload 6 (hk_ishr (hk_iconst 1 (hk_iand (hk_iload 7 (hk_if_eq (hk_iconst 0 (J 144)) (hk_iconst 1 (hk_aload 0 (hk_iload 6 (hk_aload 0 (hk_v1r 3 20 MX6_way (hk_h3 20 ML_holds (some hhL_holds) (hk_isub (hk_goto (J 144))))))))))))))))) ls_ st_ h_ → J 114 ls_ st_ h_)) (b144 : (∀ (ls_ : hq_L) (st_ : List hq_V) (h_ : hq_H), (hk_icmp_ne (hk_iconst 0 (hk_istore 5 (hk_iinc 6 1 (hk_goto (J 42))))) (hk_aload 0 (hk_iload 6 (hk_h2 20 ML_let (some hhL_let) (hk_aload 0 (hk_iload 6 (hk_h2 20 ML_empty (some hhL_empty) (hk_iand (hk_if_ne (hk_iconst 0 (hk_istore 5 (hk_iinc 6 1 (hk_goto (J 42))))) (hk_aload 0 (hk_iload 6 (hk_h2 20 ML_let (some hhL_let) (hk_aload 0 (hk_iload 6 (hk_h2 20 ML_empty (some hhL_empty) (hk_ior (hk_if_le (hk_iconst 0 (hk_istore 5 (hk_iinc 6 1 (hk_goto (J 42))))) (hk_aload 0 (hk_iload 6 (hk_h2 20 ML_follows (some hhL_follows) (hk_aload 0 (hk_iload 6 (hk_h2 20 ML_comes (some hhL_comes) (hk_icmp_ne (hk_iconst 0 (hk_istore 5 (hk_iinc 6 1 (hk_goto (J 42))))) (hk_iconst 1 (hk_goto (hk_istore 5 (hk_iinc 6 1 (hk_goto (J 42)))))))))))))))))))))))))))))) ls_ st_ h_ → J 144 ls_ st_ h_)) {w : hz_W} (R : hz_RC h w) {k : Nat} (hk : k < w.1.1) (y fl x a b : Int32) (ex : x = hz_b (hg_f w.1 k)) (e : b = a) (ih : J 42 (hg_l y (hg_F w.1) (hg_B w.1) fl 1 (nI k + 1) (some (hz_i x)) none none none none) [] h) : J 114 (hg_l y (hg_F w.1) (hg_B w.1) fl 1 (nI k) (some (hz_i x)) none none none none) [hz_i a, hz_i b] h := by
  have n10 := R.2.1.1
  have p10 := hz_p10 n10
  have B2 : hz_broke w.1 w.1.2.2.1 < 2 ^ w.1.1 := hz_broke_lt _ _
  have bb := hg_Bbit w.1 hk
  refine b114 _ _ _ (hq_nf e ?_)
  cases cf : hg_f w.1 k with
  | false =>
    rw [cf] at bb ex
    refine hq_bt ex ?_
    exact hg_144 b144 R hk y fl _ _ _ (hz_bit0 (by omega) (by omega) bb) ih
  | true =>
    rw [cf] at bb ex
    refine hq_bf (by rw [ex]; decide) ?_
    refine ⟨_, _, s_way 15 h w R, ?_⟩
    refine ⟨_, _, v_holdsNow R hk, ?_⟩
    refine hg_144 b144 R hk y fl _ _ _ ?_ ih
    cases ch : hg_h w.1 k with
    | false =>
      rw [ch] at bb
      exact hz_bit1 (by omega) (by omega) bb
    | true =>
      rw [ch] at bb
      exact hz_bit0 (by omega) (by omega) bb
theorem hg_95 {J : Nat → hq_C} {h : hq_H} (b95 : (∀ (ls_ : hq_L) (st_ : List hq_V) (h_ : hq_H), (hk_iadd (hk_istore 4 (hk_iload 7 (hk_aload 0 (hk_iload 6 (hk_h2 20 ML_waived (some hhL_waived) (hk_if_ne (hk_iconst 0 (J 114)) (hk_iconst 1 (hk_goto (J 114)))))))))) ls_ st_ h_ → J 95 ls_ st_ h_)) (b114 : (∀ (ls_ : hq_L) (st_ : List hq_V) (h_ : hq_H), (hk_icmp_ne (hk_iconst 0 (hk_istore 5 (hk_iinc 6 1 (hk_goto (J 42))))) (hk_iload 3 (hk_iload 6 (hk_ishr (hk_iconst 1 (hk_iand (hk_iload 7 (hk_if_eq (hk_iconst 0 (J 144)) (hk_iconst 1 (hk_aload 0 (hk_iload 6 (hk_aload 0 (hk_v1r 3 20 MX6_way (hk_h3 20 ML_holds (some hhL_holds) (hk_isub (hk_goto (J 144))))))))))))))))) ls_ st_ h_ → J 114 ls_ st_ h_)) (b144 : (∀ (ls_ : hq_L) (st_ : List hq_V) (h_ : hq_H), (hk_icmp_ne (hk_iconst 0 (hk_istore 5 (hk_iinc 6 1 (hk_goto (J 42))))) (hk_aload 0 (hk_iload 6 (hk_h2 20 ML_let (some hhL_let) (hk_aload 0 (hk_iload 6 (hk_h2 20 ML_empty (some hhL_empty) (hk_iand (hk_if_ne (hk_iconst 0 (hk_istore 5 (hk_iinc 6 1 (hk_goto (J 42))))) (hk_aload 0 (hk_iload 6 (hk_h2 20 ML_let (some hhL_let) (hk_aload 0 (hk_iload 6 (hk_h2 20 ML_empty (some hhL_empty) (hk_ior (hk_if_le (hk_iconst 0 (hk_istore 5 (hk_iinc 6 1 (hk_goto (J 42))))) (hk_aload 0 (hk_iload 6 (hk_h2 20 ML_follows (some hhL_follows) (hk_aload 0 (hk_iload 6 (hk_h2 20 ML_comes (some hhL_comes) (hk_icmp_ne (hk_iconst 0 (hk_istore 5 (hk_iinc 6 1 (hk_goto (J 42))))) (hk_iconst 1 (hk_goto (hk_istore 5 (hk_iinc 6 1 (hk_goto (J 42)))))))))))))))))))))))))))))) ls_ st_ h_ → J 144 ls_ st_ h_)) {i : Nat} (hi : i ≤ 100) {w : hz_W} (R : hz_RC h w) (I : hI i w.1) {k : Nat} (hk : k < w.1.1) (y fl v x : Int32) (ex : x = hz_b (hg_f w.1 k)) (ih : J 42 (hg_l y (hg_F w.1) (hg_B w.1) (fl + v) 1 (nI k + 1) (some (hz_i x)) none none none none) [] h) : J 95 (hg_l y (hg_F w.1) (hg_B w.1) fl 1 (nI k) (some (hz_i x)) none none none none) [hz_i v, hz_i fl] h := by
  have wd := hI_wd hi I hk
  refine b95 _ _ _ ?_
  refine ⟨_, _, v_waived R hk, ?_⟩
  refine hq_nc (fun c => ?_) (fun c => ?_)
  · refine hg_114 b114 b144 R hk y (fl + v) x _ _ ex ?_ ih
    rw [ex, show hg_f w.1 k = false from ts_nt (fun z => c (wd.mpr z))]
    rfl
  · refine hg_114 b114 b144 R hk y (fl + v) x _ _ ex ?_ ih
    rw [ex, show hg_f w.1 k = true from wd.mp c]
    rfl
theorem hg_71 {J : Nat → hq_C} {h : hq_H} (b71 : (∀ (ls_ : hq_L) (st_ : List hq_V) (h_ : hq_H), (hk_istore 7 (hk_iload 4 (hk_iload 3 (hk_iload 6 (hk_ishr (hk_iconst 1 (hk_iand (hk_iconst 1 (hk_icmp_ne (hk_iconst 0 (J 95)) (hk_aload 0 (hk_iload 6 (hk_h2 20 ML_fine (some hhL_fine) (hk_goto (J 95)))))))))))))) ls_ st_ h_ → J 71 ls_ st_ h_)) (b95 : (∀ (ls_ : hq_L) (st_ : List hq_V) (h_ : hq_H), (hk_iadd (hk_istore 4 (hk_iload 7 (hk_aload 0 (hk_iload 6 (hk_h2 20 ML_waived (some hhL_waived) (hk_if_ne (hk_iconst 0 (J 114)) (hk_iconst 1 (hk_goto (J 114)))))))))) ls_ st_ h_ → J 95 ls_ st_ h_)) (b114 : (∀ (ls_ : hq_L) (st_ : List hq_V) (h_ : hq_H), (hk_icmp_ne (hk_iconst 0 (hk_istore 5 (hk_iinc 6 1 (hk_goto (J 42))))) (hk_iload 3 (hk_iload 6 (hk_ishr (hk_iconst 1 (hk_iand (hk_iload 7 (hk_if_eq (hk_iconst 0 (J 144)) (hk_iconst 1 (hk_aload 0 (hk_iload 6 (hk_aload 0 (hk_v1r 3 20 MX6_way (hk_h3 20 ML_holds (some hhL_holds) (hk_isub (hk_goto (J 144))))))))))))))))) ls_ st_ h_ → J 114 ls_ st_ h_)) (b144 : (∀ (ls_ : hq_L) (st_ : List hq_V) (h_ : hq_H), (hk_icmp_ne (hk_iconst 0 (hk_istore 5 (hk_iinc 6 1 (hk_goto (J 42))))) (hk_aload 0 (hk_iload 6 (hk_h2 20 ML_let (some hhL_let) (hk_aload 0 (hk_iload 6 (hk_h2 20 ML_empty (some hhL_empty) (hk_iand (hk_if_ne (hk_iconst 0 (hk_istore 5 (hk_iinc 6 1 (hk_goto (J 42))))) (hk_aload 0 (hk_iload 6 (hk_h2 20 ML_let (some hhL_let) (hk_aload 0 (hk_iload 6 (hk_h2 20 ML_empty (some hhL_empty) (hk_ior (hk_if_le (hk_iconst 0 (hk_istore 5 (hk_iinc 6 1 (hk_goto (J 42))))) (hk_aload 0 (hk_iload 6 (hk_h2 20 ML_follows (some hhL_follows) (hk_aload 0 (hk_iload 6 (hk_h2 20 ML_comes (some hhL_comes) (hk_icmp_ne (hk_iconst 0 (hk_istore 5 (hk_iinc 6 1 (hk_goto (J 42))))) (hk_iconst 1 (hk_goto (hk_istore 5 (hk_iinc 6 1 (hk_goto (J 42)))))))))))))))))))))))))))))) ls_ st_ h_ → J 144 ls_ st_ h_)) {i : Nat} (hi : i ≤ 100) {w : hz_W} (R : hz_RC h w) (I : hI i w.1) {k : Nat} (hk : k < w.1.1) (y fl x : Int32) (v7 : Option hq_V) (ex : x = hz_b (hg_f w.1 k)) (ih : ∀ v7, J 42 (hg_l y (hg_F w.1) (hg_B w.1) (if (hz_broke w.1 w.1.2.2.1).testBit k = true then fl + w.1.2.1 k 2 else fl) 1 (nI k + 1) v7 none none none none) [] h) : J 71 (hg_l y (hg_F w.1) (hg_B w.1) fl 1 (nI k) v7 none none none none) [hz_i x] h := by
  have n10 := R.2.1.1
  have p10 := hz_p10 n10
  have B2 : hz_broke w.1 w.1.2.2.1 < 2 ^ w.1.1 := hz_broke_lt _ _
  refine b71 _ _ _ ?_
  cases bb : (hz_broke w.1 w.1.2.2.1).testBit k with
  | false =>
    rw [bb] at ih
    refine hq_nt (by rw [hz_bit0 (by omega) (by omega) bb]; decide) ?_
    refine hg_95 b95 b114 b144 hi R I hk y fl _ x ex ?_
    rw [Int32.add_zero]
    exact ih _
  | true =>
    rw [bb] at ih
    refine hq_nf (hz_bit1 (by omega) (by omega) bb) ?_
    refine ⟨_, _, v_fine R hk, ?_⟩
    exact hg_95 b95 b114 b144 hi R I hk y fl _ x ex (ih _)
theorem hg_42 {J : Nat → hq_C} {h : hq_H} (b42 : (∀ (ls_ : hq_L) (st_ : List hq_V) (h_ : hq_H), (hk_iload 6 (hk_aload 0 (hk_v1r 3 20 MX6_rules (hk_icmp_ge (J 207) (hk_iload 5 (hk_if_eq (J 207) (hk_iload 2 (hk_iload 6 (hk_ishr (hk_iconst 1 (hk_iand (hk_iconst 1 (hk_icmp_ne (hk_iconst 0 (J 71)) (hk_iconst 1 (hk_goto (J 71)))))))))))))))) ls_ st_ h_ → J 42 ls_ st_ h_)) (b71 : (∀ (ls_ : hq_L) (st_ : List hq_V) (h_ : hq_H), (hk_istore 7 (hk_iload 4 (hk_iload 3 (hk_iload 6 (hk_ishr (hk_iconst 1 (hk_iand (hk_iconst 1 (hk_icmp_ne (hk_iconst 0 (J 95)) (hk_aload 0 (hk_iload 6 (hk_h2 20 ML_fine (some hhL_fine) (hk_goto (J 95)))))))))))))) ls_ st_ h_ → J 71 ls_ st_ h_)) (b95 : (∀ (ls_ : hq_L) (st_ : List hq_V) (h_ : hq_H), (hk_iadd (hk_istore 4 (hk_iload 7 (hk_aload 0 (hk_iload 6 (hk_h2 20 ML_waived (some hhL_waived) (hk_if_ne (hk_iconst 0 (J 114)) (hk_iconst 1 (hk_goto (J 114)))))))))) ls_ st_ h_ → J 95 ls_ st_ h_)) (b114 : (∀ (ls_ : hq_L) (st_ : List hq_V) (h_ : hq_H), (hk_icmp_ne (hk_iconst 0 (hk_istore 5 (hk_iinc 6 1 (hk_goto (J 42))))) (hk_iload 3 (hk_iload 6 (hk_ishr (hk_iconst 1 (hk_iand (hk_iload 7 (hk_if_eq (hk_iconst 0 (J 144)) (hk_iconst 1 (hk_aload 0 (hk_iload 6 (hk_aload 0 (hk_v1r 3 20 MX6_way (hk_h3 20 ML_holds (some hhL_holds) (hk_isub (hk_goto (J 144))))))))))))))))) ls_ st_ h_ → J 114 ls_ st_ h_)) (b144 : (∀ (ls_ : hq_L) (st_ : List hq_V) (h_ : hq_H), (hk_icmp_ne (hk_iconst 0 (hk_istore 5 (hk_iinc 6 1 (hk_goto (J 42))))) (hk_aload 0 (hk_iload 6 (hk_h2 20 ML_let (some hhL_let) (hk_aload 0 (hk_iload 6 (hk_h2 20 ML_empty (some hhL_empty) (hk_iand (hk_if_ne (hk_iconst 0 (hk_istore 5 (hk_iinc 6 1 (hk_goto (J 42))))) (hk_aload 0 (hk_iload 6 (hk_h2 20 ML_let (some hhL_let) (hk_aload 0 (hk_iload 6 (hk_h2 20 ML_empty (some hhL_empty) (hk_ior (hk_if_le (hk_iconst 0 (hk_istore 5 (hk_iinc 6 1 (hk_goto (J 42))))) (hk_aload 0 (hk_iload 6 (hk_h2 20 ML_follows (some hhL_follows) (hk_aload 0 (hk_iload 6 (hk_h2 20 ML_comes (some hhL_comes) (hk_icmp_ne (hk_iconst 0 (hk_istore 5 (hk_iinc 6 1 (hk_goto (J 42))))) (hk_iconst 1 (hk_goto (hk_istore 5 (hk_iinc 6 1 (hk_goto (J 42)))))))))))))))))))))))))))))) ls_ st_ h_ → J 144 ls_ st_ h_)) {i : Nat} (hi : i ≤ 100) {w : hz_W} (R : hz_RC h w) (I : hI i w.1) (y : Int32) (k207 : ∀ v7, J 207 (hg_l y (hg_F w.1) (hg_B w.1) (hz_night w.1.2.1 w.1.1 w.1.2.2.2.1 w.1.2.2.1) 1 (nI w.1.1) v7 none none none none) [] h) : J 42 (hg_l y (hg_F w.1) (hg_B w.1) 0 1 0 none none none none none) [] h := by
  have n10 := R.2.1.1
  have p10 := hz_p10 n10
  have F2 := hz_force_lt w.1
  refine hq_up (P := fun k => ∀ v7, J 42 (hg_l y (hg_F w.1) (hg_B w.1) (hz_sum (fun i => (hz_broke w.1 w.1.2.2.1).testBit i) (hz_price w.1.2.1) k) 1 (nI k) v7 none none none none) [] h) w.1.1 (fun v7 => b42 _ _ _ ?_) (fun k hk ih v7 => b42 _ _ _ ?_) 0 (Nat.zero_le _) none
  · refine ⟨_, _, s_rules 15 h w R, ?_⟩
    refine hq_bt (hz_le (a := w.1.1) (b := w.1.1) rfl rfl (Nat.le_refl _) (by omega)) ?_
    have k := k207 v7
    rw [show hz_night w.1.2.1 w.1.1 w.1.2.2.2.1 w.1.2.2.1 = hz_sum (fun i => (hz_broke w.1 w.1.2.2.1).testBit i) (hz_price w.1.2.1) w.1.1 from hz_sum_mk.symm] at k
    exact k
  · refine ⟨_, _, s_rules 15 h w R, ?_⟩
    refine hq_bf (hz_nle (a := w.1.1) (b := k) rfl rfl hk (by omega)) (hq_bf (by decide) ?_)
    rw [nI_succ k] at ih
    have fb := hz_force_bit w.1 hk
    cases c : (hz_force w.1).testBit k with
    | false =>
      refine hq_nt (by rw [hz_bit0 (by omega) (by omega) c]; decide) ?_
      exact hg_71 b71 b95 b114 b144 hi R I hk y _ _ v7 (by rw [show hg_f w.1 k = false from fb.symm.trans c]; rfl) ih
    | true =>
      refine hq_nf (hz_bit1 (by omega) (by omega) c) ?_
      exact hg_71 b71 b95 b114 b144 hi R I hk y _ _ v7 (by rw [show hg_f w.1 k = true from fb.symm.trans c]; rfl) ih
