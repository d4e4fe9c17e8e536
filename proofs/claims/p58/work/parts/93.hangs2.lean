-- ===== what the law holds of all numbers: the same in all manners =====
theorem hg_force31 (st : hz_St) (hn : st.1 ≤ 10) : hz_force st < 2 ^ 31 := hz_force31 st hn
theorem hg_bF {st : hz_St} (hok : hz_okS st) : hg_B st &&& (hg_F st ^^^ -1) = 0 := by
  obtain ⟨g1, g2⟩ := hz_g_is hok
  have e : hz_dif (hz_broke st st.2.2.1) (hz_force st) = 0 := by
    rw [g1]
    exact hx_bkF st _
  show nI (hz_broke st st.2.2.1) &&& (nI (hz_force st) ^^^ -1) = 0
  rw [hz_difN, e]
  rfl
theorem hg_ahead (st : hz_St) : hz_ahead st.2.1 st.1 st.2.2.2.1 st.2.2.1 1 = hz_night st.2.1 st.1 st.2.2.2.1 st.2.2.1 := by
  show 0 + hz_night st.2.1 st.1 (st.2.2.2.1 + nI 0) st.2.2.1 = _
  rw [Int32.zero_add, show nI 0 = (0 : Int32) from rfl, Int32.add_zero]
theorem hg_207 {J : Nat → hq_C} {h h1 h2 : hq_H} (b207 : (∀ (ls_ : hq_L) (st_ : List hq_V) (h_ : hq_H), (hk_iload 5 (hk_if_eq (hk_iconst 0 (J 280)) (hk_aload 0 (hk_v1r 3 20 MX6_nightNow (hk_iload 4 (hk_icmp_ne (hk_iconst 0 (J 280)) (hk_aload 0 (hk_iconst 1 (hk_h2 20 ML_ahead (some hhL_ahead) (hk_iload 4 (hk_icmp_ne (hk_iconst 0 (J 280)) (hk_aload 0 (hk_v1r 3 20 MX6_ways (hk_aload 0 (hk_v1r 3 20 MX6_waysBySplitting (hk_icmp_ne (hk_iconst 0 (J 280)) (hk_aload 0 (hk_v1r 3 20 MX6_smallestClash (hk_aload 0 (hk_v1r 3 20 MX6_smallestClashByWays (hk_icmp_ne (hk_iconst 0 (J 280)) (hk_aload 0 (hk_v1r 3 20 MX6_fewestWaivers (hk_aload 0 (hk_v1r 3 20 MX6_fewestWaiversBySets (hk_icmp_ne (hk_iconst 0 (J 280)) (hk_aload 0 (hk_v1r 3 20 MX6_turnsToPeace (hk_aload 0 (hk_v1r 3 20 MX6_turnsToPeaceByGoing (hk_icmp_ne (hk_iconst 0 (J 280)) (hk_iconst 1 (hk_goto (J 280)))))))))))))))))))))))))))))))))) ls_ st_ h_ → J 207 ls_ st_ h_)) {w : hz_W} (R : hz_RC h w) (R1 : hz_RC h1 w) (R2 : hz_RC h2 w) (m1 : hq_Met 20 MX6_smallestClash [.inr (3, 0)] h (hz_o (hz_small w.1)) h1) (m2 : hq_Met 20 MX6_fewestWaiversBySets [.inr (3, 0)] h1 (hz_o (nI (hz_fws w.1))) h2) (y k : Int32) (v7 : Option hq_V)
    (k280 : J 280 (hg_l y (hg_F w.1) (hg_B w.1) (hz_night w.1.2.1 w.1.1 w.1.2.2.2.1 w.1.2.2.1) 1 k v7 none none none none) [hz_i 1] h2) : J 207 (hg_l y (hg_F w.1) (hg_B w.1) (hz_night w.1.2.1 w.1.1 w.1.2.2.2.1 w.1.2.2.1) 1 k v7 none none none none) [] h := by
  have n10 := R.2.1.1
  refine b207 _ _ _ (hq_bf (by decide) ?_)
  refine ⟨_, _, s_nightNow 15 h w R, hq_nf rfl ?_⟩
  refine ⟨_, _, v_ahead R, hq_nf (hg_ahead w.1) ?_⟩
  refine ⟨_, _, s_ways 15 h w R, ?_⟩
  refine ⟨_, _, s_waysBySplitting 10 h w R, hq_nf rfl ?_⟩
  refine ⟨_, _, m1, ?_⟩
  refine ⟨_, _, s_smallestClashByWays 7 h1 w R1, hq_nf (hb_scw w.1 n10).symm ?_⟩
  refine ⟨_, _, s_fewestWaivers 15 h1 w R1, ?_⟩
  refine ⟨_, _, m2, hq_nf (congrArg nI (hx_few_fws w.1 n10)) ?_⟩
  refine ⟨_, _, s_turnsToPeace 15 h2 w R2, ?_⟩
  refine ⟨_, _, s_turnsToPeaceByGoing 15 h2 w R2, hq_nf (hx_tp_tg R.2.1) ?_⟩
  exact k280
theorem hg_343 {J : Nat → hq_C} {h : hq_H} (b343 : (∀ (ls_ : hq_L) (st_ : List hq_V) (h_ : hq_H), (hk_icmp_lt (hk_iconst 0 (J 371)) (hk_aload 0 (hk_iload 2 (hk_h2 20 ML_stand (some hhL_stand) (hk_aload 0 (hk_v1r 3 20 MX6_ways (hk_if_le (hk_iconst 0 (J 363)) (hk_iconst 1 (hk_goto (J 363)))))))))) ls_ st_ h_ → J 343 ls_ st_ h_)) (b363 : (∀ (ls_ : hq_L) (st_ : List hq_V) (h_ : hq_H), (hk_icmp_ne (hk_iconst 0 (J 371)) (hk_iconst 1 (hk_goto (J 371)))) ls_ st_ h_ → J 363 ls_ st_ h_)) {w : hz_W} (R : hz_RC h w) (y fl k a b : Int32) (v7 : Option hq_V) (hab : ¬ b < a)
    (k371 : J 371 (hg_l y (hg_F w.1) (hg_B w.1) fl 1 k v7 none none none none) [hz_i 1] h) : J 343 (hg_l y (hg_F w.1) (hg_B w.1) fl 1 k v7 none none none none) [hz_i a, hz_i b] h := by
  have n10 := R.2.1.1
  have l64 := hx_many_64 w.1
  refine b343 _ _ _ (hq_bf hab ?_)
  refine ⟨_, _, v_stand R (hz_force_lt w.1), ?_⟩
  refine ⟨_, _, s_ways 15 h w R, ?_⟩
  by_cases p : hx_P w.1
  · have m0 := (hx_many w.1).mpr p
    refine hq_bf (nI_ge (a := 0) m0 (by omega)) (b363 _ _ _ (hq_nf ?_ k371))
    unfold hz_nz
    rw [decide_eq_false (fun z => (hx_standF w.1).mp z p)]
    rfl
  · have m0 : hz_many w.1 = 0 := by
      have := (hx_many w.1)
      by_cases z : 0 < hz_many w.1
      · exact absurd (this.mp z) p
      · omega
    refine hq_bt (by rw [m0]; decide) (b363 _ _ _ (hq_nf ?_ k371))
    unfold hz_nz
    rw [decide_eq_true ((hx_standF w.1).mpr p)]
    rfl
theorem hg_280 {J : Nat → hq_C} {h h1 h2 : hq_H} (b280 : (∀ (ls_ : hq_L) (st_ : List hq_V) (h_ : hq_H), (hk_istore 5 (hk_iload 1 (hk_iconst 1 (hk_aload 0 (hk_v1r 3 20 MX6_rules (hk_ishl (hk_irem (hk_istore 6 (hk_iload 5 (hk_if_eq (hk_iconst 0 (J 371)) (hk_aload 0 (hk_iload 6 (hk_h2 20 ML_stand (some hhL_stand) (hk_aload 0 (hk_iload 6 (hk_h2 20 ML_split (some hhL_split) (hk_icmp_ne (hk_iconst 0 (J 371)) (hk_aload 0 (hk_iload 6 (hk_h2 20 ML_stand (some hhL_stand) (hk_aload 0 (hk_iload 6 (hk_h2 20 ML_join (some hhL_join) (hk_icmp_ne (hk_iconst 0 (J 371)) (hk_aload 0 (hk_iload 6 (hk_h2 20 ML_joined (some hhL_joined) (hk_iload 6 (hk_if_ne (hk_iconst 1 (J 343)) (hk_iconst 0 (hk_goto (J 343)))))))))))))))))))))))))))))))) ls_ st_ h_ → J 280 ls_ st_ h_)) (b343 : (∀ (ls_ : hq_L) (st_ : List hq_V) (h_ : hq_H), (hk_icmp_lt (hk_iconst 0 (J 371)) (hk_aload 0 (hk_iload 2 (hk_h2 20 ML_stand (some hhL_stand) (hk_aload 0 (hk_v1r 3 20 MX6_ways (hk_if_le (hk_iconst 0 (J 363)) (hk_iconst 1 (hk_goto (J 363)))))))))) ls_ st_ h_ → J 343 ls_ st_ h_)) (b363 : (∀ (ls_ : hq_L) (st_ : List hq_V) (h_ : hq_H), (hk_icmp_ne (hk_iconst 0 (J 371)) (hk_iconst 1 (hk_goto (J 371)))) ls_ st_ h_ → J 363 ls_ st_ h_)) {w : hz_W} (R : hz_RC h w) (R1 : hz_RC h1 w) (R2 : hz_RC h2 w) {Y : Nat} (hY : Y < 2 ^ 31)
    (m1 : hq_MetW 0 20 ML_join (some hhL_join) hq_X0 [.inr (3, 0), hz_i (nI (Y % 2 ^ w.1.1))] h (hz_o (hz_b (!hj_in (hz_joined w.1 (Y % 2 ^ w.1.1)) 0))) h1) (m2 : hq_MetW 0 20 ML_joined (some hhL_joined) hq_X0 [.inr (3, 0), hz_i (nI (Y % 2 ^ w.1.1))] h1 (hz_o (nI (hz_joined w.1 (Y % 2 ^ w.1.1)).1)) h2) (fl k : Int32) (v7 : Option hq_V)
    (k371 : ∀ s, J 371 (hg_l (nI Y) (hg_F w.1) (hg_B w.1) fl 1 s v7 none none none none) [hz_i 1] h2) : J 280 (hg_l (nI Y) (hg_F w.1) (hg_B w.1) fl 1 k v7 none none none none) [hz_i 1] h := by
  have n10 := R.2.1.1
  have p10 := hz_p10 n10
  have p0 : 0 < 2 ^ w.1.1 := Nat.two_pow_pos _
  have hS : Y % 2 ^ w.1.1 < 2 ^ w.1.1 := Nat.mod_lt _ p0
  have ne : ¬ (1 : Int32) <<< (nI w.1.1 &&& 31) = 0 := by
    rw [hz_pwn n10]
    intro z
    have := (nI_eq (a := 2 ^ w.1.1) (b := 0) (by omega) (by decide)).mp z
    omega
  have es : nI Y - nI Y / ((1 : Int32) <<< (nI w.1.1 &&& 31)) * ((1 : Int32) <<< (nI w.1.1 &&& 31)) = nI (Y % 2 ^ w.1.1) := by
    rw [hz_pwn n10]
    exact pk_rem hY p0 (by omega)
  have st := v_stand R hS
  have sp := v_split R hS
  have j729 := hj_max (hz_joined_ok R.2.1 (Y % 2 ^ w.1.1))
  have jn := hx_join R.2.1 (Y % 2 ^ w.1.1)
  have j1 := hx_joined1 (st := w.1) hS
  have z0 : (nI (Y % 2 ^ w.1.1) = 0) → Y % 2 ^ w.1.1 = 0 := fun z => (nI_eq (a := Y % 2 ^ w.1.1) (b := 0) (by omega) (by decide)).mp z
  rw [← es] at st sp m1 m2 z0
  refine b280 _ _ _ ?_
  refine ⟨_, _, s_rules 15 h w R, ?_⟩
  refine ⟨ne, ?_⟩
  refine hq_bf (by decide) ?_
  refine ⟨_, _, st, ?_⟩
  refine ⟨_, _, sp, hq_nf rfl ?_⟩
  refine ⟨_, _, st, ?_⟩
  refine ⟨_, _, m1, hq_nf (by rw [jn]) ?_⟩
  refine ⟨_, _, m2, ?_⟩
  refine hq_nc (fun c => ?_) (fun c => ?_)
  · refine hg_343 b343 b363 R2 (nI Y) fl _ _ _ v7 ?_ (k371 _)
    exact nI_nlt (b := 1) (j1 (fun z => c (by rw [es, z]; rfl))) (by omega)
  · refine hg_343 b343 b363 R2 (nI Y) fl _ _ _ v7 ?_ (k371 _)
    exact nI_nlt (b := 0) (Nat.zero_le _) (by omega)
