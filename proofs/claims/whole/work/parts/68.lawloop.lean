-- ===== the law's loop =====
theorem hq_go {G : hq_G} {M : hq_M} {d pc : Nat} {K : hq_C} {ls : hq_L} {st : List hq_V} {h : hq_H} (b : hq_S G M d pc K) (k : K ls st h) : hq_T G M d pc ls st h := b ls st h k
theorem law_loop (bs L : Nat) (xs : Nat → Int32) (hL : L ≤ 2048) : ∀ f i n (w : hz_W) (g : hq_H) (v5 v6 v7 v8 : Option hq_V), L - i < f → i ≤ L + 4 → n + f ≤ 5000 → hz_RC g w → hm_RM g w → hq_T (hq_GL bs L xs n) ML_law 16 23 (hq_ll bs i v5 v6 v7 v8) [] g := by
  intro f
  induction f with
  | zero => intro i n w g v5 v6 v7 v8 hf; exact absurd hf (Nat.not_lt_zero _)
  | succ f ih =>
    intro i n w g v5 v6 v7 v8 hf hi hn R M
    have hn5 : n + 1 ≤ 5000 := by omega
    apply hq_go (bL_law_23 bs L xs n 16)
    unfold kL_23
    refine ⟨rfl, ?_⟩
    by_cases c : i + 3 < L
    · have kk : ∀ (g' : hq_H) (w' : hz_W) (v5 v6 v7 v8 : Option hq_V), hz_RC g' w' → hm_RM g' w' → hq_T (hq_GL bs L xs (n + 1)) ML_law 16 2303 (hq_ll bs i v5 v6 v7 v8) [] g' := by
        intro g' w' v5 v6 v7 v8 R' M'
        apply hq_go (bL_law_2303 bs L xs (n + 1) 16)
        have k : hq_T (hq_GL bs L xs (n + 1)) ML_law 16 23 (hq_ll bs (i + 4) v5 v6 v7 v8) [] g' := by
          exact @ih (i + 4) (n + 1) w' g' v5 v6 v7 v8 (by omega) (by omega) (by omega) R' M'
        have e4 : hq_ll bs (i + 4) v5 v6 v7 v8 = [some (.inl (.ref bs)), some (.inr (3, 0)), some (.inr (13, 0)), some (.inr (20, 0)), some (hz_i (nI i + 4)), v5, v6, v7, v8] := congrArg (fun z => [some (.inl (.ref bs)), some (.inr (3, 0)), some (.inr (13, 0)), some (.inr (20, 0)), some (hz_i z), v5, v6, v7, v8]) (show nI i + 4 = nI (i + 4) from nI_add i 4).symm
        rw [e4] at k
        exact @k
      have e : nI L - 4 = nI (L - 4) := pk_sub (b := 4) (by omega)
      refine hq_bf (fun z => ?_) ?_
      · have z : nI L - 4 < nI i := z
        rw [e] at z
        exact nI_nlt (a := L - 4) (b := i) (by omega) (by omega) z
      refine ⟨rfl, i, by omega, by omega, rfl, ?_⟩
      refine hq_bc (fun _ => hq_go (bL_law_272 bs L xs n 16 hn5) (cL_272 hL R M c kk v5 v6 v7 v8)) (fun _ => ?_)
      refine hq_bc (fun _ => hq_go (bL_law_352 bs L xs n 16 hn5) (cL_352 hL R M c kk v5 v6 v7 v8)) (fun _ => ?_)
      refine hq_bc (fun _ => hq_go (bL_law_408 bs L xs n 16 hn5) (cL_408 hL R M c kk v5 v6 v7 v8)) (fun _ => ?_)
      refine hq_bc (fun _ => hq_go (bL_law_499 bs L xs n 16 hn5) (cL_499 hL R M c kk v5 v6 v7 v8)) (fun _ => ?_)
      refine hq_bc (fun _ => hq_go (bL_law_567 bs L xs n 16 hn5) (cL_567 hL R M c kk v5 v6 v7 v8)) (fun _ => ?_)
      refine hq_bc (fun _ => hq_go (bL_law_623 bs L xs n 16 hn5) (cL_623 hL R M c kk v5 v6 v7 v8)) (fun _ => ?_)
      refine hq_bc (fun _ => hq_go (bL_law_679 bs L xs n 16 hn5) (cL_679 hL R M c kk v5 v6 v7 v8)) (fun _ => ?_)
      refine hq_bc (fun _ => hq_go (bL_law_735 bs L xs n 16 hn5) (cL_735 hL R M c kk v5 v6 v7 v8)) (fun _ => ?_)
      refine hq_bc (fun _ => hq_go (bL_law_791 bs L xs n 16 hn5) (cL_791 hL R M c kk v5 v6 v7 v8)) (fun _ => ?_)
      refine hq_bc (fun _ => hq_go (bL_law_804 bs L xs n 16 hn5) (cL_804 hL R M c kk v5 v6 v7 v8)) (fun _ => ?_)
      refine hq_bc (fun _ => hq_go (bL_law_817 bs L xs n 16 hn5) (cL_817 hL R M c kk v5 v6 v7 v8)) (fun _ => ?_)
      refine hq_bc (fun _ => hq_go (bL_law_861 bs L xs n 16 hn5) (cL_861 hL R M c kk v5 v6 v7 v8)) (fun _ => ?_)
      refine hq_bc (fun _ => hq_go (bL_law_874 bs L xs n 16 hn5) (cL_874 hL R M c kk v5 v6 v7 v8)) (fun _ => ?_)
      refine hq_bc (fun _ => hq_go (bL_law_918 bs L xs n 16 hn5) (cL_918 hL R M c kk v5 v6 v7 v8)) (fun _ => ?_)
      refine hq_bc (fun _ => hq_go (bL_law_962 bs L xs n 16 hn5) (cL_962 hL R M c kk v5 v6 v7 v8)) (fun _ => ?_)
      refine hq_bc (fun _ => hq_go (bL_law_975 bs L xs n 16 hn5) (cL_975 hL R M c kk v5 v6 v7 v8)) (fun _ => ?_)
      refine hq_bc (fun _ => hq_go (bL_law_1031 bs L xs n 16 hn5) (cL_1031 hL R M c kk v5 v6 v7 v8)) (fun _ => ?_)
      refine hq_bc (fun _ => hq_go (bL_law_1087 bs L xs n 16 hn5) (cL_1087 hL R M c kk v5 v6 v7 v8)) (fun _ => ?_)
      refine hq_bc (fun _ => hq_go (bL_law_1143 bs L xs n 16 hn5) (cL_1143 hL R M c kk v5 v6 v7 v8)) (fun _ => ?_)
      refine hq_bc (fun _ => hq_go (bL_law_1206 bs L xs n 16 hn5) (cL_1206 hL R M c kk v5 v6 v7 v8)) (fun _ => ?_)
      refine hq_bc (fun _ => hq_go (bL_law_1262 bs L xs n 16 hn5) (cL_1262 hL R M c kk v5 v6 v7 v8)) (fun _ => ?_)
      refine hq_bc (fun _ => hq_go (bL_law_1337 bs L xs n 16 hn5) (cL_1337 hL R M c kk v5 v6 v7 v8)) (fun _ => ?_)
      refine hq_bc (fun _ => hq_go (bL_law_1350 bs L xs n 16 hn5) (cL_1350 hL R M c kk v5 v6 v7 v8)) (fun _ => ?_)
      refine hq_bc (fun _ => hq_go (bL_law_1363 bs L xs n 16 hn5) (cL_1363 hL R M c kk v5 v6 v7 v8)) (fun _ => ?_)
      refine hq_bc (fun _ => hq_go (bL_law_1376 bs L xs n 16 hn5) (cL_1376 hL R M c kk v5 v6 v7 v8)) (fun _ => ?_)
      refine hq_bc (fun _ => hq_go (bL_law_1389 bs L xs n 16 hn5) (cL_1389 hL R M c kk v5 v6 v7 v8)) (fun _ => ?_)
      refine hq_bc (fun _ => hq_go (bL_law_1445 bs L xs n 16 hn5) (cL_1445 hL R M c kk v5 v6 v7 v8)) (fun _ => ?_)
      refine hq_bc (fun _ => hq_go (bL_law_1501 bs L xs n 16 hn5) (cL_1501 hL R M c kk v5 v6 v7 v8)) (fun _ => ?_)
      refine hq_bc (fun _ => hq_go (bL_law_1514 bs L xs n 16 hn5) (cL_1514 hL R M c kk v5 v6 v7 v8)) (fun _ => ?_)
      refine hq_bc (fun _ => hq_go (bL_law_1527 bs L xs n 16 hn5) (cL_1527 hL R M c kk v5 v6 v7 v8)) (fun _ => ?_)
      refine hq_bc (fun _ => hq_go (bL_law_1590 bs L xs n 16 hn5) (cL_1590 hL R M c kk v5 v6 v7 v8)) (fun _ => ?_)
      refine hq_bc (fun _ => hq_go (bL_law_1653 bs L xs n 16 hn5) (cL_1653 hL R M c kk v5 v6 v7 v8)) (fun _ => ?_)
      refine hq_bc (fun _ => hq_go (bL_law_1716 bs L xs n 16 hn5) (cL_1716 hL R M c kk v5 v6 v7 v8)) (fun _ => ?_)
      refine hq_bc (fun _ => hq_go (bL_law_1772 bs L xs n 16 hn5) (cL_1772 hL R M c kk v5 v6 v7 v8)) (fun _ => ?_)
      refine hq_bc (fun _ => hq_go (bL_law_1785 bs L xs n 16 hn5) (cL_1785 hL R M c kk v5 v6 v7 v8)) (fun _ => ?_)
      refine hq_bc (fun _ => hq_go (bL_law_1798 bs L xs n 16 hn5) (cL_1798 hL R M c kk v5 v6 v7 v8)) (fun _ => ?_)
      refine hq_bc (fun _ => hq_go (bL_law_1811 bs L xs n 16 hn5) (cL_1811 hL R M c kk v5 v6 v7 v8)) (fun _ => ?_)
      refine hq_bc (fun _ => hq_go (bL_law_1867 bs L xs n 16 hn5) (cL_1867 hL R M c kk v5 v6 v7 v8)) (fun _ => ?_)
      refine hq_bc (fun _ => hq_go (bL_law_1930 bs L xs n 16 hn5) (cL_1930 hL R M c kk v5 v6 v7 v8)) (fun _ => ?_)
      refine hq_bc (fun _ => hq_go (bL_law_1993 bs L xs n 16 hn5) (cL_1993 hL R M c kk v5 v6 v7 v8)) (fun _ => ?_)
      refine hq_bc (fun _ => hq_go (bL_law_2006 bs L xs n 16 hn5) (cL_2006 hL R M c kk v5 v6 v7 v8)) (fun _ => ?_)
      refine hq_bc (fun _ => hq_go (bL_law_2019 bs L xs n 16 hn5) (cL_2019 hL R M c kk v5 v6 v7 v8)) (fun _ => ?_)
      refine hq_bc (fun _ => hq_go (bL_law_2032 bs L xs n 16 hn5) (cL_2032 hL R M c kk v5 v6 v7 v8)) (fun _ => ?_)
      refine hq_bc (fun _ => hq_go (bL_law_2045 bs L xs n 16 hn5) (cL_2045 hL R M c kk v5 v6 v7 v8)) (fun _ => ?_)
      refine hq_bc (fun _ => hq_go (bL_law_2058 bs L xs n 16 hn5) (cL_2058 hL R M c kk v5 v6 v7 v8)) (fun _ => ?_)
      refine hq_bc (fun _ => hq_go (bL_law_2071 bs L xs n 16 hn5) (cL_2071 hL R M c kk v5 v6 v7 v8)) (fun _ => ?_)
      refine hq_bc (fun _ => hq_go (bL_law_2084 bs L xs n 16 hn5) (cL_2084 hL R M c kk v5 v6 v7 v8)) (fun _ => ?_)
      refine hq_bc (fun _ => hq_go (bL_law_2097 bs L xs n 16 hn5) (cL_2097 hL R M c kk v5 v6 v7 v8)) (fun _ => ?_)
      refine hq_bc (fun _ => hq_go (bL_law_2110 bs L xs n 16 hn5) (cL_2110 hL R M c kk v5 v6 v7 v8)) (fun _ => ?_)
      refine hq_bc (fun _ => hq_go (bL_law_2123 bs L xs n 16 hn5) (cL_2123 hL R M c kk v5 v6 v7 v8)) (fun _ => ?_)
      refine hq_bc (fun _ => hq_go (bL_law_2136 bs L xs n 16 hn5) (cL_2136 hL R M c kk v5 v6 v7 v8)) (fun _ => ?_)
      refine hq_bc (fun _ => hq_go (bL_law_2149 bs L xs n 16 hn5) (cL_2149 hL R M c kk v5 v6 v7 v8)) (fun _ => ?_)
      refine hq_bc (fun _ => hq_go (bL_law_2205 bs L xs n 16 hn5) (cL_2205 hL R M c kk v5 v6 v7 v8)) (fun _ => ?_)
      refine hq_bc (fun _ => hq_go (bL_law_2246 bs L xs n 16 hn5) (cL_2246 hL R M c kk v5 v6 v7 v8)) (fun _ => ?_)
      refine hq_bc (fun _ => hq_go (bL_law_2289 bs L xs n 16 hn5) (cL_2289 hL R M c kk v5 v6 v7 v8)) (fun _ => ?_)
      exact hq_Jw hn5 (kk g w v5 v6 v7 v8 R M)
    · refine hq_bt ?_ rfl
      show nI L - 4 < nI i
      by_cases q : 4 ≤ L
      · rw [show nI L - 4 = nI (L - 4) from pk_sub (b := 4) q]
        exact nI_lt (by omega) (by omega)
      · exact Int32.lt_of_lt_of_le (pk_sneg (a := L) (b := 4) (by decide) (by omega)) (nI_pos' (n := i) (by omega))
