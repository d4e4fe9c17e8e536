-- ===== the law's loop =====
abbrev hl_l (bs : Nat) (ok i : Int32) (v4 v5 v6 v7 : Option hq_V) : hq_L := [some (.inl (.ref bs)), some (.inr (3, 0)), some (hz_i ok), some (hz_i i), v4, v5, v6, v7]
theorem hI_mono {i : Nat} {st : hz_St} (I : hI i st) : hI (i + 1) st := by
  obtain ⟨h1, ⟨d, hd, e⟩, h3⟩ := I
  refine ⟨h1, ⟨d, by omega, e⟩, fun k hk => ?_⟩
  obtain ⟨f, hf, ef⟩ := h3 k hk
  exact ⟨f, by omega, ef⟩
theorem hl_last (v : hz_Sv) (st : hz_St) (hv : v.1 ≤ 6) : 0 < (hs_save v st).1 ∧ (hs_save v st).1 ≤ 6 ∧ (hs_save v st).2 ((hs_save v st).1 - 1) = st := by
  unfold hs_save
  by_cases c : v.1 < 6
  · rw [if_pos c]
    exact ⟨Nat.succ_pos _, by show v.1 + 1 ≤ 6; omega, if_pos (by show v.1 + 1 - 1 = v.1; omega)⟩
  · rw [if_neg c]
    exact ⟨by show 0 < v.1; omega, hv, if_pos (by show v.1 - 1 = 5; omega)⟩
theorem hl_cell (L : Nat) (xs : Nat → Int32) (k : Nat) : ∃ C, C < 2 ^ 31 ∧ hc_cell L xs k = nI C := pk_andE _ 31 (by decide)
theorem hl_224 {bs L : Nat} {xs : Nat → Int32} {i n : Nat} (hi : i ≤ 100) (hn : n + 2 ≤ 5000) {w : hz_W} {g : hq_H} (R : hz_RC g w) (I : hI i w.1) (x : Int32) (v4 v5 v6 v7 : Option hq_V) : hq_T (hq_GL bs L xs n) ML_law 21 224 (hl_l bs 1 x v4 v5 v6 v7) [] g := by
  obtain ⟨g1, m1, R1⟩ := t_hangs hi R I (Y := 1023) (by decide)
  apply hq_go (bL_law_224 bs L xs n 21 hn)
  unfold kL_224
  refine hq_bf (by decide) ?_
  refine ⟨_, _, m1, hq_bf (by decide) ?_⟩
  rfl
theorem hl_145 {bs L : Nat} {xs : Nat → Int32} {i n : Nat} (hn : n + 2 ≤ 5000) {w : hz_W} {st : hz_St} {g : hq_H} (hv : w.2.2.1.1 ≤ 6) (R : hz_RC g (sp_saved w st)) {Y : Nat} (t : Int32) (v7 : Option hq_V)
    (k218 : ∀ (g' : hq_H) (w' : hz_W) (v7 : Option hq_V), hz_RC g' w' → w'.1 = st → hq_T (hq_GL bs L xs n) ML_law 21 218 (hl_l bs 1 (nI i) (some (hz_i (nI Y))) (some (hz_i (hn_n w.1))) (some (hz_i t)) v7) [] g') : hq_T (hq_GL bs L xs n) ML_law 21 145 (hl_l bs 1 (nI i) (some (hz_i (nI Y))) (some (hz_i (hn_n w.1))) (some (hz_i t)) v7) [] g := by
  obtain ⟨c1, c2, c3⟩ := hl_last w.2.2.1 w.1 hv
  obtain ⟨g1, m1, R1, -⟩ := t_keep 16 g _ R
  have u := t_undo 15 g1 _ R1
  rw [show sp_undo (sp_keep (sp_saved w st)).2 = (hz_o (nI ((hs_save w.2.2.1 w.1).1 - 1)), (w.1, some st, ((hs_save w.2.2.1 w.1).1 - 1, (hs_save w.2.2.1 w.1).2), w.2.2.2)) by
    refine (if_pos c1).trans ?_
    show (hz_o (nI ((hs_save w.2.2.1 w.1).1 - 1)), ((hs_save w.2.2.1 w.1).2 ((hs_save w.2.2.1 w.1).1 - 1), some st, ((hs_save w.2.2.1 w.1).1 - 1, (hs_save w.2.2.1 w.1).2), w.2.2.2)) = _
    rw [c3]] at u
  obtain ⟨g2, m2, R2, -⟩ := u
  obtain ⟨g3, m3, R3, -⟩ := t_goBack 15 g2 _ R2
  apply hq_go (bL_law_145 bs L xs n 21 hn)
  unfold kL_145
  refine hq_bf (by decide) ?_
  refine ⟨by decide, by decide, ?_⟩
  refine hq_nc (fun _ => ?_) (fun _ => ?_)
  · exact @k218 g _ v7 R rfl
  · refine ⟨_, _, t_numbers g _ R, ?_⟩
    refine ⟨_, _, m1, ?_⟩
    refine ⟨_, _, s_day 16 g1 _ R1, hq_nf rfl ?_⟩
    refine ⟨_, _, pL_undo 20 g1 g2 _ m2, hq_bf (nI_pos (by omega)) ?_⟩
    refine ⟨_, _, t_numbers g2 _ R2, hq_nf rfl ?_⟩
    refine ⟨_, _, pL_back 20 g2 g3 _ m3, ?_⟩
    refine ⟨_, _, s_day 16 g3 _ R3, hq_nf rfl ?_⟩
    refine ⟨_, _, t_numbers g3 _ R3, hq_nf rfl ?_⟩
    exact @k218 g3 _ _ R3 rfl
theorem hl_80 {bs L : Nat} {xs : Nat → Int32} {i n : Nat} (hi : i ≤ 60) (hn : n + 2 ≤ 5000) (hn3 : n + 1 + 2 ≤ 5000) {w : hz_W} {g : hq_H} (R : hz_RC g w) (I : hI i w.1) {Y : Nat} (hY : Y < 2 ^ 31) (v4 v5 v6 v7 : Option hq_V)
    (k42 : ∀ (g' : hq_H) (w' : hz_W) (v4 v5 v6 v7 : Option hq_V), hz_RC g' w' → hI (i + 1) w'.1 → hq_T (hq_GL bs L xs (n + 1)) ML_law 21 42 (hl_l bs 1 (nI i + 1) v4 v5 v6 v7) [] g') : hq_T (hq_GL bs L xs n) ML_law 21 80 (hl_l bs 1 (nI i) v4 v5 v6 v7) [hz_i (nI Y)] g := by
  obtain ⟨t, g1, w1, m1, R1, alt⟩ := t_acts (i := i) (by omega) R I hY
  have k218 : ∀ (g' : hq_H) (w' : hz_W) (v4 v5 v6 v7 : Option hq_V), hz_RC g' w' → hI (i + 1) w'.1 → hq_T (hq_GL bs L xs (n + 1)) ML_law 21 218 (hl_l bs 1 (nI i) v4 v5 v6 v7) [] g' := fun g' w' v4 v5 v6 v7 R' I' => by
    apply hq_go (bL_law_218 bs L xs (n + 1) 21 hn3)
    unfold kL_218
    exact @k42 g' w' v4 v5 v6 v7 R' I'
  apply hq_go (bL_law_80 bs L xs n 21 hn)
  unfold kL_80
  refine ⟨_, _, t_numbers g w R, ?_⟩
  refine ⟨[.inr (3, 0), hz_i (nI Y)], [], rfl, rfl, by decide, t, g1, m1, ?_⟩
  rcases alt with ⟨t0, rfl⟩ | ⟨t0, st, rfl, I1⟩
  · refine hq_bf (Int32.not_le.mpr t0) ?_
    refine ⟨_, _, t_numbers g1 _ R1, hq_nf rfl ?_⟩
    exact @k218 g1 _ _ _ _ _ R1 (hI_mono I)
  · refine hq_bt t0 ?_
    have k145 : ∀ g', hz_RC g' (sp_saved w st) → hq_T (hq_GL bs L xs (n + 1)) ML_law 21 145 (hl_l bs 1 (nI i) (some (hz_i (nI Y))) (some (hz_i (hn_n w.1))) (some (hz_i t)) v7) [] g' := fun g' R' => by
      apply hl_145 hn3 R.2.2.2.1.1 R' t v7
      intro g2 w2 v7 R2 e2
      exact @k218 g2 w2 _ _ _ v7 R2 (by rw [e2]; exact I1)
    refine ⟨by decide, hq_bc (fun _ => ?_) (fun _ => ?_)⟩
    · exact @k145 g1 R1
    · have e64 : nI Y / 64 = nI (Y / 64) := pk_div (a := Y) (d := 64) hY (by decide) (by decide)
      obtain ⟨g2, m2, R2⟩ := t_hangs (i := i + 1) (by omega) R1 I1 (Y := Y / 64) (by omega)
      rw [← e64] at m2
      refine ⟨by decide, ?_⟩
      refine ⟨_, _, m2, hq_bf (by decide) ?_⟩
      exact @k145 g2 R2
theorem law_loop (bs L : Nat) (xs : Nat → Int32) (hL : L ≤ 260) : ∀ f i n (w : hz_W) (g : hq_H) (v4 v5 v6 v7 : Option hq_V), i + f = 60 → n ≤ 1000 + i → hz_RC g w → hI i w.1 → hq_T (hq_GL bs L xs n) ML_law 21 42 (hl_l bs 1 (nI i) v4 v5 v6 v7) [] g := by
  intro f
  induction f with
  | zero =>
    intro i n w g v4 v5 v6 v7 hf hn R I
    apply hq_go (bL_law_42 bs L xs n 21 (by omega))
    unfold kL_42
    refine hq_bt (nI_le (a := 60) (b := i) (by omega) (by omega)) ?_
    apply hl_224 (i := i) (by omega) (by omega) R I
  | succ f ih =>
    intro i n w g v4 v5 v6 v7 hf hn R I
    have k42 : ∀ (g' : hq_H) (w' : hz_W) (v4 v5 v6 v7 : Option hq_V), hz_RC g' w' → hI (i + 1) w'.1 → hq_T (hq_GL bs L xs (n + 1)) ML_law 21 42 (hl_l bs 1 (nI i + 1) v4 v5 v6 v7) [] g' := fun g' w' v4 v5 v6 v7 R' I' => by
      have q : hq_T (hq_GL bs L xs (n + 1)) ML_law 21 42 (hl_l bs 1 (nI (i + 1)) v4 v5 v6 v7) [] g' := by
        exact @ih (i + 1) (n + 1) w' g' v4 v5 v6 v7 (by omega) (by omega) R' I'
      rw [nI_succ i] at q
      exact @q
    obtain ⟨C, hC, eC⟩ := hl_cell L xs i
    have cell := t_cell bs L xs hL (k := i) (by omega) g
    rw [eC] at cell
    apply hq_go (bL_law_42 bs L xs n 21 (by omega))
    unfold kL_42
    refine hq_bf (nI_ge (a := i) (b := 60) (by omega) (by decide)) (hq_bf (by decide) ?_)
    by_cases c : i < 5
    · refine hq_bf (nI_ge (a := i) (b := 5) (by omega) (by decide)) ?_
      refine ⟨[.inl (.ref bs), hz_i (nI i)], [], rfl, rfl, by decide, _, _, cell, ?_⟩
      refine ⟨by decide, by decide, ?_⟩
      have ey : nI C / 16 * 16 + (nI i - nI i / 4 * 4) = nI (C / 16 * 16 + i % 4) := by
        rw [show nI C / 16 = nI (C / 16) from pk_div (a := C) (d := 16) hC (by decide) (by decide), show nI i - nI i / 4 * 4 = nI (i % 4) from pk_rem (a := i) (d := 4) (by omega) (by decide) (by decide), show nI (C / 16) * 16 = nI (C / 16 * 16) from pk_mul (C / 16) 16, nI_add]
      have q : hq_T (hq_GL bs L xs n) ML_law 21 80 (hl_l bs 1 (nI i) v4 v5 v6 v7) [hz_i (nI (C / 16 * 16 + i % 4))] g := by
        exact @hl_80 bs L xs i n (by omega) (by omega) (by omega) w g R I (C / 16 * 16 + i % 4) (by omega) v4 v5 v6 v7 k42
      rw [← ey] at q
      exact @q
    · refine hq_bt (nI_le (a := 5) (b := i) (by omega) (by omega)) ?_
      refine ⟨[.inl (.ref bs), hz_i (nI i)], [], rfl, rfl, by decide, _, _, cell, ?_⟩
      exact @hl_80 bs L xs i n (by omega) (by omega) (by omega) w g R I C hC v4 v5 v6 v7 k42
theorem h0_I : hI 0 w0_.1 := ⟨rfl, ⟨0, Nat.le_refl _, rfl⟩, fun k hk => absurd hk (Nat.not_lt_zero _)⟩
theorem law_first (bs L : Nat) (xs : Nat → Int32) (hL : L ≤ 260) : hq_T (hq_GL bs L xs 0) ML_law 21 8 [some (.inl (.ref bs)), some (.inr (3, 0)), none, none, none, none, none, none] [] h0_ := by
  have u := t_undo 15 h0_ w0_ h0_RC
  rw [show sp_undo w0_ = (.inr hz_ISE, w0_) from if_neg (Nat.lt_irrefl 0)] at u
  obtain ⟨g1, m1, R1, -⟩ := u
  have v := t_goBack 15 g1 w0_ R1
  rw [show sp_goBack w0_ = (.inr hz_ISE, w0_) from rfl] at v
  obtain ⟨g2, m2, R2, -⟩ := v
  obtain ⟨g3, m3, R3⟩ := t_hangs (i := 0) (by decide) R2 h0_I (Y := 0) (by decide)
  apply hq_go (bL_law_8 bs L xs 0 21 (by decide))
  unfold kL_8
  refine ⟨[.inr (3, 0)], [], rfl, rfl, by decide, _, _, kcL_undo 20 h0_ g1 _ m1 (Or.inl rfl), hq_nf (hz_hc1 _) ?_⟩
  refine ⟨[.inr (3, 0)], [], rfl, rfl, by decide, _, _, kcL_back 20 g1 g2 _ m2 (Or.inl rfl), hq_nf (hz_hc1 _) ?_⟩
  refine ⟨_, _, m3, hq_bf (by decide) ?_⟩
  exact @law_loop bs L xs hL 60 0 2 w0_ g3 none none none none rfl (by decide) R3 h0_I
