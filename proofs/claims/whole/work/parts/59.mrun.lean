-- ===== the reference: logs =====
theorem hm_RM_f5 {h : hq_H} {w : hz_W} (F : Nat → Int32) (R : hm_RM h w) : hm_RM (hm_f5 h F) w := by
  have e14 : (hm_f5 h F).1 14 0 = h.1 14 0 := hm_f5_k h F (by decide) 0
  have e18 : (hm_f5 h F).1 18 0 = h.1 18 0 := hm_f5_k h F (by decide) 0
  have e19 : (hm_f5 h F).1 19 0 = h.1 19 0 := hm_f5_k h F (by decide) 0
  have es : ∀ q, hm_slot (hm_f5 h F) q = hm_slot h q := fun q => by
    unfold hm_slot
    rw [e14]
  obtain ⟨a, b, c, e, L, j1, j2, j3, j4⟩ := R
  refine ⟨⟨by rw [e14]; exact a.1, a.2⟩, ?_, ⟨c.1, (hm_f5_n h F (by decide)).trans c.2.1, fun i hi => by rw [es]; exact c.2.2 i hi⟩, hm_f5_BF F e, L, (hm_f5_n h F (by decide)).trans j1, fun i hi => by rw [e19]; exact j2 i hi, fun i hi => by rw [e18]; exact j3 i hi, j4⟩
  revert b
  cases w.2.1 with
  | none => exact fun b => (hm_f5_n h F (by decide)).trans b
  | some s => exact fun b => ⟨(hm_f5_n h F (by decide)).trans b.1, by rw [es]; exact b.2⟩
theorem hw_Mo_f5 (h : hq_H) (F : Nat → Int32) : hw_stay hw_Mo h (hm_f5 h F) := fun k i hn => by
  have hk : k ≠ 13 := fun z => hn ⟨by omega, by omega⟩
  exact ⟨hm_f5_k h F hk i, rfl⟩
theorem m_isLog_loop (d : Nat) (h : hq_H) {b : Nat → Nat} {n : Nat} (hb : ∀ i, i < n → b i ≤ 126) (n60 : n ≤ 60) (B : hm_BF h (n, b)) : ∀ f i (r F : Nat → Int32), n - i < f → i ≤ n → r 0 = 0 → F 6 = nI i → ∃ F', F' 6 = nI (hl_log b n f i r).2.1 ∧ ∀ (J : Nat → hq_C) (v2 : Int32), (∀ (ls_ : hq_L) (st_ : List hq_V) (h_ : hq_H), (hk_iload 1 (hk_if_eq (hk_iload 2 (hk_if_eq (hk_iconst 0 (hk_zret (hz_o (hz_b ((hl_log b n f i r).1 && decide ((hl_log b n f i r).2.1 = n)))) (hm_f5 h F'))) (hk_aload 0 (hk_getf 13 6 (hk_aload 0 (hk_getf 13 5 (hk_icmp_ne (hk_iconst 0 (hk_zret (hz_o (hz_b ((hl_log b n f i r).1 && decide ((hl_log b n f i r).2.1 = n)))) (hm_f5 h F'))) (hk_iconst 1 (hk_goto (hk_zret (hz_o (hz_b ((hl_log b n f i r).1 && decide ((hl_log b n f i r).2.1 = n)))) (hm_f5 h F'))))))))))) (hk_aload 0 (hk_v1r 13 (d + 4) MX7_part (hk_istore 2 (hk_iload 2 (hk_if_eq (hk_iconst 0 (J 38)) (hk_aload 0 (hk_bipush 59 (hk_bipush 59 (hk_v3r 13 (d + 4) MX7_isAt (hk_if_eq (hk_iconst 0 (J 38)) (hk_iconst 1 (hk_goto (J 38))))))))))))))) ls_ st_ h_ → J 9 ls_ st_ h_) → (∀ (ls_ : hq_L) (st_ : List hq_V) (h_ : hq_H), (hk_istore 1 (hk_aload 0 (hk_dup (hk_getf 13 6 (hk_iload 1 (hk_if_eq (hk_iconst 0 (hk_iadd (hk_putI 13 6 (hk_goto (J 9))))) (hk_iconst 1 (hk_goto (hk_iadd (hk_putI 13 6 (hk_goto (J 9)))))))))))) ls_ st_ h_ → J 38 ls_ st_ h_) → J 9 [some (.inr (13, 0)), some (hz_i 1), some (hz_i v2)] [] (hm_f5 h F) := by
  intro f
  induction f with
  | zero => intro i r F hf; exact absurd hf (Nat.not_lt_zero _)
  | succ f ih =>
    intro i r F hf hi h0 f6
    have l1 := hl_part_lt hb hi h0
    obtain ⟨g1, g2, g3, g4, g5⟩ := hl_part_is hb hi h0
    have eL : hl_log b n (f + 1) i r = if (hl_part b n i r).1 = true then (if (hl_part b n i r).2.1 < n ∧ b (hl_part b n i r).2.1 = 59 then hl_log b n f ((hl_part b n i r).2.1 + 1) (hr_put (hl_part b n i r).2.2 0 0) else (true, (hl_part b n i r).2)) else (false, (hl_part b n i r).2) := rfl
    obtain ⟨F1, mp, F16, -⟩ := m_part d h F hb n60 B hi h0 f6
    rw [eL]
    generalize hl_part b n i r = P at *
    have a6 : (hm_f5 h F1).1 13 0 6 = nI P.2.1 := (hm_f5_g h F1 (by decide) (by decide)).trans F16
    have BF := hm_f5_BF F1 B
    by_cases ok : P.1 = true
    · rw [if_pos ok]
      obtain ⟨-, lj⟩ := l1 ok
      rw [ok] at mp
      have mi := m_isAt (d + 2) (hm_f5 h F1) hb n60 BF a6 (by omega) (lo := 59) (hi := 59) (by decide) (by decide) rfl rfl
      by_cases c : P.2.1 < n ∧ b P.2.1 = 59
      · rw [if_pos c]
        obtain ⟨F', e', k'⟩ := ih (P.2.1 + 1) (hr_put P.2.2 0 0) (hr_put F1 6 (nI (P.2.1 + 1))) (by omega) (by omega) (hr_put_e _ _ _) (hr_put_e _ _ _)
        refine ⟨F', e', fun J v2 b9 b38 => b9 _ _ _ (hq_bf hz_one0 ?_)⟩
        rw [hm_isa_t.mpr ⟨c.1, by omega, by omega⟩] at mi
        refine ⟨_, _, mp, hq_bf hz_one0 ?_⟩
        refine ⟨_, _, mi, hq_bf hz_one0 (b38 _ _ _ (hq_bf hz_one0 ?_))⟩
        have k := k' J 1 b9 b38
        have e1 : hq_si (hm_f5 h F1) 13 0 6 ((hm_f5 h F1).1 13 0 6 + 1) = hm_f5 h (hr_put F1 6 (nI (P.2.1 + 1))) := by
          rw [hm_f5_p _ _ _ (by decide) (by decide), a6, ← nI_succ]
        rw [← e1] at k
        exact k
      · rw [if_neg c]
        refine ⟨F1, F16, fun J v2 b9 b38 => b9 _ _ _ (hq_bf hz_one0 ?_)⟩
        have nf : hm_isa b n P.2.1 59 59 = false := ts_nt (fun z => by
          obtain ⟨z1, z2, z3⟩ := hm_isa_t.mp z
          exact c ⟨z1, by omega⟩)
        rw [nf] at mi
        refine ⟨_, _, mp, hq_bf hz_one0 ?_⟩
        refine ⟨_, _, mi, hq_bt rfl (b38 _ _ _ (hq_bt rfl ?_))⟩
        have e1 : hq_si (hm_f5 h F1) 13 0 6 ((hm_f5 h F1).1 13 0 6 + 0) = hm_f5 h F1 := by
          rw [hm_f5_p _ _ _ (by decide) (by decide), a6, hz_add0]
          refine hm_f5_e h (fun s _ _ => ?_)
          by_cases w : s = 6
          · rw [w, hr_put_e, F16]
          · exact hr_put_n _ _ w
        have k : J 9 [some (.inr (13, 0)), some (hz_i 0), some (hz_i 1)] [] (hm_f5 h F1) := by
          refine b9 _ _ _ (hq_bt rfl (hq_bf hz_one0 ?_))
          by_cases q : P.2.1 = n
          · refine hq_nf ?_ ⟨Or.inr rfl, hz_rb (by rw [decide_eq_true q]; rfl), rfl⟩
            show (hm_f5 h F1).1 13 0 6 = (hm_f5 h F1).1 13 0 5
            rw [a6, BF.1, q]
          · refine hq_nt ?_ ⟨Or.inl rfl, hz_rf (by rw [decide_eq_false q]; rfl), rfl⟩
            exact hz_ne (a := P.2.1) (b := n) a6 BF.1 q (by omega) (by omega)
        rw [← e1] at k
        exact k
    · rw [if_neg ok]
      rw [ts_nt ok] at mp
      refine ⟨F1, F16, fun J v2 b9 b38 => b9 _ _ _ (hq_bf hz_one0 ?_)⟩
      refine ⟨_, _, mp, hq_bt rfl (b38 _ _ _ (hq_bt rfl ?_))⟩
      have e1 : hq_si (hm_f5 h F1) 13 0 6 ((hm_f5 h F1).1 13 0 6 + 0) = hm_f5 h F1 := by
        rw [hm_f5_p _ _ _ (by decide) (by decide), a6, hz_add0]
        refine hm_f5_e h (fun s _ _ => ?_)
        by_cases w : s = 6
        · rw [w, hr_put_e, F16]
        · exact hr_put_n _ _ w
      have k : J 9 [some (.inr (13, 0)), some (hz_i 0), some (hz_i 0)] [] (hm_f5 h F1) := b9 _ _ _ (hq_bt rfl (hq_bt rfl ⟨Or.inl rfl, rfl, rfl⟩))
      rw [← e1] at k
      exact k
theorem m_isLog (d : Nat) (h : hq_H) {b : Nat → Nat} {n : Nat} (hb : ∀ i, i < n → b i ≤ 126) (n60 : n ≤ 60) (B : hm_BF h (n, b)) {r : Nat → Int32} (h0 : r 0 = 0) : ∃ F', hq_Met (d + 5) MX7_isLog [.inr (13, 0)] h (hz_o (hz_b (hl_acc b n r))) (hm_f5 h F') ∧ F' 6 = nI (hl_log b n (n + 1) 0 r).2.1 := by
  obtain ⟨F', e, k⟩ := m_isLog_loop d h hb n60 B (n + 1) 0 r (hr_put (h.1 13 0) 6 0) (by omega) (Nat.zero_le _) h0 (hr_put_e _ _ _)
  refine ⟨F', ?_, e⟩
  refine inX7_isLog (d + 4) 0 h _ _ (fun _ => trivial) (fun J b0 b9 b38 => b0 _ _ _ ?_)
  have k := k J 1 b9 b38
  rw [← hm_f5_p _ _ _ (by decide) (by decide), hm_f5_0] at k
  exact k
theorem r_firstError (d : Nat) (h : hq_H) (w : hz_W) (R : hm_RM h w) (ok : hz_okW w) : hm_Ans MX7_firstError (d + 6) [.inr (13, 0)] h hz_IAE (sp_first w) := by
  have R1 := hm_RM_th 0 R ok
  obtain ⟨n60, bok⟩ := ok.2.2.2
  have hb : ∀ i, i < w.2.2.2.1 → w.2.2.2.2 i ≤ 126 := fun i hi => (bok i hi).2
  obtain ⟨F', m, e6⟩ := m_isLog d (hq_si h 13 0 3 0) hb n60 R1.2.2.2.1 (r := hr_z) rfl
  have a6 : (hm_f5 (hq_si h 13 0 3 0) F').1 13 0 6 = nI (hl_log w.2.2.2.2 w.2.2.2.1 (w.2.2.2.1 + 1) 0 hr_z).2.1 := (hm_f5_g _ F' (by decide) (by decide)).trans e6
  refine ⟨_, .int (nI (hl_log w.2.2.2.2 w.2.2.2.1 (w.2.2.2.1 + 1) 0 hr_z).2.1), ?_, hm_RM_f5 F' R1, (hw_Mo_13 h 3 0).trans (hw_Mo_f5 _ F'), (hm_f5_n _ F' (by decide)).trans (hm_th1 h 0), rfl⟩
  refine inX7_firstError (d + 5) 0 h _ _ (fun _ => trivial) (fun J b0 => b0 _ _ _ ?_)
  refine ⟨_, _, m, ?_⟩
  by_cases c : hl_acc w.2.2.2.2 w.2.2.2.1 hr_z = true
  · refine hq_bf (by rw [c]; exact hz_one0) ⟨hz_ri ?_, rfl⟩
    have c2 := c
    unfold hl_acc at c2
    rw [Bool.and_eq_true, decide_eq_true_iff] at c2
    rw [c2.2]
    exact ((hm_f5_BF F' R1.2.2.2.1).1).symm
  · exact hq_bt (by rw [ts_nt c]; rfl) ⟨hz_ri a6.symm, rfl⟩
