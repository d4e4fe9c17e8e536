-- ===== the reference: a log is run =====
def hm_lr (g g' : hq_H) : Prop := (∀ s, s < 5 ∨ 11 ≤ s → g'.1 13 0 s = g.1 13 0 s) ∧ g'.1 15 0 = g.1 15 0 ∧ g'.1 18 0 = g.1 18 0 ∧ g'.1 19 0 = g.1 19 0 ∧ g'.2 16 0 = g.2 16 0 ∧ (∀ i, 65 ≤ i → g'.1 14 0 i = g.1 14 0 i) ∧ hw_stay hw_Mo g g'
theorem hm_lr.trans {a b c : hq_H} (h1 : hm_lr a b) (h2 : hm_lr b c) : hm_lr a c := ⟨fun s hs => (h2.1 s hs).trans (h1.1 s hs), h2.2.1.trans h1.2.1, h2.2.2.1.trans h1.2.2.1, h2.2.2.2.1.trans h1.2.2.2.1, h2.2.2.2.2.1.trans h1.2.2.2.2.1, fun i hi => (h2.2.2.2.2.2.1 i hi).trans (h1.2.2.2.2.2.1 i hi), h1.2.2.2.2.2.2.trans h2.2.2.2.2.2.2⟩
theorem hm_lr_13 (g : hq_H) {s : Nat} (h1 : 5 ≤ s) (h2 : s < 11) (x : Int32) : hm_lr g (hq_si g 13 0 s x) := ⟨fun s' hs => by rw [hq_si_at, if_neg (fun z => by omega)], hq_si_o _ _ _ (fun z => absurd z.1 (by decide)), hq_si_o _ _ _ (fun z => absurd z.1 (by decide)), hq_si_o _ _ _ (fun z => absurd z.1 (by decide)), rfl, fun i _ => by rw [hq_si_o _ _ _ (fun z => absurd z.1 (by decide))], hw_Mo_13 g s x⟩
theorem hm_lr_f5 (g : hq_H) (F : Nat → Int32) : hm_lr g (hm_f5 g F) := ⟨fun s hs => hm_f5_n g F (by omega), hm_f5_k g F (by decide) 0, hm_f5_k g F (by decide) 0, hm_f5_k g F (by decide) 0, rfl, fun i _ => by rw [hm_f5_k g F (by decide)], hw_Mo_f5 g F⟩
theorem hm_lr_do {g g' : hq_H} (r : hm_rest g g') (s : hw_stay hw_Mo g g') (e : g'.1 13 0 = g.1 13 0) (q : ∀ i, 65 ≤ i → g'.1 14 0 i = g.1 14 0 i) : hm_lr g g' := ⟨fun s _ => by rw [e], r.2.1, r.2.2.1, r.2.2.2.1, r.2.2.2.2, q, s⟩
theorem hm_RM_lr {g g' : hq_H} {w : hz_W} {st : hz_St} (R : hm_RM g w) (ok : hz_okW w) (L : hm_lr g g') (hS : hm_S (g'.1 14 0) st) (h5 : g'.1 13 0 5 = 0) : hm_RM g' (st, w.2.1, w.2.2.1, (0, w.2.2.2.2)) := by
  obtain ⟨l1, l15, l18, l19, l16, lq, ls⟩ := L
  obtain ⟨a, b, c, e, J, j1, j2, j3, j4⟩ := R
  have es : ∀ q, hm_slot g' (q + 1) = hm_slot g (q + 1) := fun q => by
    funext i
    exact lq _ (by omega)
  refine ⟨⟨hS, ?_⟩, ?_, ⟨c.1, (l1 1 (by decide)).trans c.2.1, fun i hi => by rw [es]; exact c.2.2 i hi⟩, ⟨h5, fun i hi => absurd hi (Nat.not_lt_zero _)⟩, J, (l1 15 (by decide)).trans j1, fun i hi => by rw [l19]; exact j2 i hi, fun i hi => by rw [l18]; exact j3 i hi, j4⟩
  · unfold hm_L
    rw [l16]
    exact a.2
  · revert b
    dsimp only
    cases w.2.1 with
    | none => exact fun b => (l1 2 (by decide)).trans b
    | some s => exact fun b => ⟨(l1 2 (by decide)).trans b.1, by rw [es 6]; exact b.2⟩
theorem m_runLog_loop (d : Nat) {b : Nat → Nat} {n : Nat} (hb : ∀ i, i < n → b i ≤ 126) (n60 : n ≤ 60) : ∀ f i (r : Nat → Int32) (g : hq_H) (st : hz_St) (dn : Nat), n - i < f → i ≤ n → r 0 = 0 → hm_S (g.1 14 0) st → hz_okS st → hm_BF g (n, b) → g.1 13 0 6 = nI i → (hl_log b n f i r).1 = true → (hl_log b n f i r).2.1 = n →
    ∃ g', hm_S (g'.1 14 0) (hl_run b n f i r st).2 ∧ hm_lr g g' ∧ g'.1 13 0 5 = 0 ∧ ∀ J : Nat → hq_C, (∀ (ls_ : hq_L) (st_ : List hq_V) (h_ : hq_H), (hk_iload 2 (hk_if_eq (hk_aload 0 (hk_iconst 0 (hk_putI 13 5 (hk_iload 1 (hk_iret (hz_o (nI (dn + (hl_run b n f i r st).1))) g'))))) (hk_aload 0 (hk_getf 13 6 (hk_aload 0 (hk_getf 13 5 (hk_icmp_ge (hk_aload 0 (hk_iconst 0 (hk_putI 13 5 (hk_iload 1 (hk_iret (hz_o (nI (dn + (hl_run b n f i r st).1))) g'))))) (hk_aload 0 (hk_v1r 13 (d + 5) MX7_part (hk_pop (hk_aload 0 (hk_v1r 13 (d + 5) MX7_does (hk_istore 2 (hk_iload 1 (hk_iload 2 (hk_if_eq (hk_iconst 0 (J 63)) (hk_iconst 1 (hk_goto (J 63))))))))))))))))))) ls_ st_ h_ → J 28 ls_ st_ h_) → (∀ (ls_ : hq_L) (st_ : List hq_V) (h_ : hq_H), (hk_iadd (hk_istore 1 (hk_aload 0 (hk_dup (hk_getf 13 6 (hk_iconst 1 (hk_iadd (hk_putI 13 6 (hk_goto (J 28)))))))))) ls_ st_ h_ → J 63 ls_ st_ h_) → J 28 [some (.inr (13, 0)), some (hz_i (nI dn)), some (hz_i 1)] [] g := by
  intro f
  induction f with
  | zero => intro i r g st dn hf; exact absurd hf (Nat.not_lt_zero _)
  | succ f ih =>
    intro i r g st dn hf hi h0 H ok B a6 acc1 acc2
    have l1 := hl_part_lt hb hi h0
    obtain ⟨g1, g2, g3, g4, g5⟩ := hl_part_is hb hi h0
    have eL : hl_log b n (f + 1) i r = if (hl_part b n i r).1 = true then (if (hl_part b n i r).2.1 < n ∧ b (hl_part b n i r).2.1 = 59 then hl_log b n f ((hl_part b n i r).2.1 + 1) (hr_put (hl_part b n i r).2.2 0 0) else (true, (hl_part b n i r).2)) else (false, (hl_part b n i r).2) := rfl
    have eR : hl_run b n (f + 1) i r st = if (hr_do st (hl_part b n i r).2.2).1 = true then (if (hl_part b n i r).2.1 < n then ((hl_run b n f ((hl_part b n i r).2.1 + 1) (hr_put (hl_part b n i r).2.2 0 0) (hr_do st (hl_part b n i r).2.2).2).1 + 1, (hl_run b n f ((hl_part b n i r).2.1 + 1) (hr_put (hl_part b n i r).2.2 0 0) (hr_do st (hl_part b n i r).2.2).2).2) else (1, (hr_do st (hl_part b n i r).2.2).2)) else (0, st) := rfl
    obtain ⟨F1, mp, F16, Ffs⟩ := m_part (d + 1) g (g.1 13 0) hb n60 B hi h0 a6
    rw [hm_f5_0] at mp
    rw [eL] at acc1 acc2
    rw [eR]
    generalize hl_part b n i r = P at *
    have okP : P.1 = true := ts_nf (fun z => by rw [if_neg (by rw [z]; decide)] at acc1; cases acc1)
    obtain ⟨d0, dd, d2⟩ := g4 okP
    obtain ⟨li, lj⟩ := l1 okP
    rw [if_pos okP] at acc1 acc2
    have fs : hm_fs ((hm_f5 g F1).1 13 0) P.2.2 := by
      obtain ⟨f7, fr, fc, fn, fv⟩ := Ffs okP
      have z : ∀ s, 6 ≤ s → s < 11 → (hm_f5 g F1).1 13 0 s = F1 s := fun s => hm_f5_g g F1
      exact ⟨(z 7 (by decide) (by decide)).trans f7, fun q => ⟨(z 8 (by decide) (by decide)).trans (fr q).1, (z 9 (by decide) (by decide)).trans (fr q).2.1, (z 10 (by decide) (by decide)).trans (fr q).2.2⟩, fun q => (z 8 (by decide) (by decide)).trans (fc q), fun q => (z 8 (by decide) (by decide)).trans (fn q), fun q => ⟨(z 8 (by decide) (by decide)).trans (fv q).1, (z 9 (by decide) (by decide)).trans (fv q).2⟩⟩
    have H1 : hm_S ((hm_f5 g F1).1 14 0) st := by rw [hm_f5_k g F1 (by decide)]; exact H
    obtain ⟨g6, mD, HD, ⟨r6, s6, t6⟩, q6⟩ := m_does d (hm_f5 g F1) st P.2.2 H1 ok dd fs
    have okD := hr_do_ok ok dd
    have L6 : hm_lr g g6 := (hm_lr_f5 g F1).trans (hm_lr_do r6 s6 t6 q6)
    have e6 : g6.1 13 0 6 = nI P.2.1 := by rw [t6, hm_f5_g g F1 (by decide) (by decide)]; exact F16
    have e65 : g6.1 13 0 5 = nI n := by rw [t6, hm_f5_n g F1 (by decide)]; exact B.1
    -- the next place
    have L7 : hm_lr g (hq_si g6 13 0 6 (g6.1 13 0 6 + 1)) := L6.trans (hm_lr_13 g6 (by decide) (by decide) _)
    have e7 : (hq_si g6 13 0 6 (g6.1 13 0 6 + 1)).1 13 0 6 = nI (P.2.1 + 1) := by
      rw [hq_si_at, if_pos ⟨rfl, rfl, rfl⟩, e6, ← nI_succ]
    have e75 : (hq_si g6 13 0 6 (g6.1 13 0 6 + 1)).1 13 0 5 = nI n := by
      rw [hq_si_at, if_neg (fun z => absurd z.2.1 (by decide))]
      exact e65
    have H7 : hm_S ((hq_si g6 13 0 6 (g6.1 13 0 6 + 1)).1 14 0) (hr_do st P.2.2).2 := by
      rw [hq_si_o _ _ _ (fun z => absurd z.1 (by decide))]
      exact HD
    have B7 : hm_BF (hq_si g6 13 0 6 (g6.1 13 0 6 + 1)) (n, b) := ⟨e75, fun i hi => by rw [L7.2.1]; exact B.2 i hi⟩
    have end5 : ∀ gg : hq_H, hm_lr gg (hq_si gg 13 0 5 0) ∧ (hq_si gg 13 0 5 0).1 13 0 5 = 0 ∧ (hq_si gg 13 0 5 0).1 14 0 = gg.1 14 0 := fun gg => ⟨hm_lr_13 gg (by decide) (by decide) 0, by rw [hq_si_at, if_pos ⟨rfl, rfl, rfl⟩], hq_si_o _ _ _ (fun z => absurd z.1 (by decide))⟩
    obtain ⟨g7, eg⟩ : ∃ g7, hq_si g6 13 0 6 (g6.1 13 0 6 + 1) = g7 := ⟨_, rfl⟩
    rw [eg] at L7 e7 e75 H7 B7
    have adv : ∀ (J : Nat → hq_C) (res : hq_R) (gr : hq_H) (v : Int32), (∀ (ls_ : hq_L) (st_ : List hq_V) (h_ : hq_H), (hk_iload 2 (hk_if_eq (hk_aload 0 (hk_iconst 0 (hk_putI 13 5 (hk_iload 1 (hk_iret res gr))))) (hk_aload 0 (hk_getf 13 6 (hk_aload 0 (hk_getf 13 5 (hk_icmp_ge (hk_aload 0 (hk_iconst 0 (hk_putI 13 5 (hk_iload 1 (hk_iret res gr))))) (hk_aload 0 (hk_v1r 13 (d + 5) MX7_part (hk_pop (hk_aload 0 (hk_v1r 13 (d + 5) MX7_does (hk_istore 2 (hk_iload 1 (hk_iload 2 (hk_if_eq (hk_iconst 0 (J 63)) (hk_iconst 1 (hk_goto (J 63))))))))))))))))))) ls_ st_ h_ → J 28 ls_ st_ h_) → (∀ (ls_ : hq_L) (st_ : List hq_V) (h_ : hq_H), (hk_iadd (hk_istore 1 (hk_aload 0 (hk_dup (hk_getf 13 6 (hk_iconst 1 (hk_iadd (hk_putI 13 6 (hk_goto (J 28)))))))))) ls_ st_ h_ → J 63 ls_ st_ h_) → v = nI dn + hz_b (hr_do st P.2.2).1 → J 28 [some (.inr (13, 0)), some (hz_i v), some (hz_i (hz_b (hr_do st P.2.2).1))] [] g7 → J 28 [some (.inr (13, 0)), some (hz_i (nI dn)), some (hz_i 1)] [] g := by
      intro J res gr v b28 b63 hv k
      subst hv
      rw [← eg] at k
      refine b28 _ _ _ (hq_bf hz_one0 ?_)
      refine hq_bf (hz_nle (a := n) (b := i) B.1 a6 li (by omega)) ?_
      refine ⟨_, _, mp, ?_⟩
      refine ⟨_, _, mD, ?_⟩
      generalize (hr_do st P.2.2).1 = x at *
      cases x with
      | true => exact hq_bf hz_one0 (b63 _ _ _ k)
      | false => exact hq_bt rfl (b63 _ _ _ k)
    by_cases cD : (hr_do st P.2.2).1 = true
    · rw [if_pos cD]
      by_cases c : P.2.1 < n
      · rw [if_pos c]
        have c59 : b P.2.1 = 59 := by
          by_cases z : b P.2.1 = 59
          · exact z
          · rw [if_neg (fun w => z w.2)] at acc2
            have : P.2.1 = n := acc2
            omega
        rw [if_pos ⟨c, c59⟩] at acc1 acc2
        obtain ⟨g', q1, q2, q3, q4⟩ := ih (P.2.1 + 1) (hr_put P.2.2 0 0) g7 (hr_do st P.2.2).2 (dn + 1) (by omega) (by omega) (hr_put_e _ _ _) H7 okD B7 e7 acc1 acc2
        dsimp only
        rw [show dn + ((hl_run b n f (P.2.1 + 1) (hr_put P.2.2 0 0) (hr_do st P.2.2).2).1 + 1) = dn + 1 + (hl_run b n f (P.2.1 + 1) (hr_put P.2.2 0 0) (hr_do st P.2.2).2).1 by omega]
        refine ⟨g', q1, L7.trans q2, q3, fun J b28 b63 => adv J _ _ (nI (dn + 1)) b28 b63 ?_ ?_⟩
        · rw [cD, nI_succ]
          rfl
        · rw [cD]
          exact q4 J b28 b63
      · rw [if_neg c]
        refine ⟨hq_si g7 13 0 5 0, by rw [(end5 g7).2.2]; exact H7, L7.trans (end5 g7).1, (end5 g7).2.1, fun J b28 b63 => adv J _ _ (nI (dn + 1)) b28 b63 ?_ ?_⟩
        · rw [cD, nI_succ]
          rfl
        · rw [cD]
          refine b28 _ _ _ (hq_bf hz_one0 ?_)
          exact hq_bt (hz_le (a := n) (b := P.2.1 + 1) e75 e7 (by omega) (by omega)) ⟨rfl, rfl⟩
    · rw [if_neg cD]
      have est := hr_do_no (ts_nt cD)
      rw [est] at H7
      refine ⟨hq_si g7 13 0 5 0, by rw [(end5 g7).2.2]; exact H7, L7.trans (end5 g7).1, (end5 g7).2.1, fun J b28 b63 => adv J _ _ (nI dn) b28 b63 ?_ ?_⟩
      · rw [ts_nt cD]
        exact (hz_add0 _).symm
      · rw [ts_nt cD]
        exact b28 _ _ _ (hq_bt rfl ⟨rfl, rfl⟩)
theorem r_runLog (d : Nat) (h : hq_H) (w : hz_W) (R : hm_RM h w) (ok : hz_okW w) (r : Nat → Int32) (h0 : r 0 = 0) : hm_Ans MX7_runLog (d + 6) [.inr (13, 0)] h hz_IAE (sp_runLog w r) := by
  obtain ⟨n60, bok⟩ := ok.2.2.2
  have hb : ∀ i, i < w.2.2.2.1 → w.2.2.2.2 i ≤ 126 := fun i hi => (bok i hi).2
  obtain ⟨F', m, e6⟩ := m_isLog d h hb n60 R.2.2.2.1 h0
  have Rf := hm_RM_f5 F' R
  unfold sp_runLog
  by_cases acc : hl_acc w.2.2.2.2 w.2.2.2.1 r = true
  · rw [if_pos acc]
    rw [acc] at m
    obtain ⟨h2, m2, R2, s2, t2⟩ := m_saves (d + 3) (hq_si (hm_f5 h F') 13 0 3 0) w (hm_RM_th 0 Rf ok) ok
    have L3 := hm_lr_13 h2 (s := 6) (by decide) (by decide) 0
    have acc2 := acc
    unfold hl_acc at acc2
    rw [Bool.and_eq_true, decide_eq_true_iff] at acc2
    have H3 : hm_S ((hq_si h2 13 0 6 0).1 14 0) w.1 := by
      rw [hq_si_o _ _ _ (fun z => absurd z.1 (by decide))]
      exact R2.1.1
    have B3 : hm_BF (hq_si h2 13 0 6 0) (w.2.2.2.1, w.2.2.2.2) := ⟨by
      rw [hq_si_at, if_neg (fun z => absurd z.2.1 (by decide))]
      exact R2.2.2.2.1.1, fun i hi => by rw [L3.2.1]; exact R2.2.2.2.1.2 i hi⟩
    obtain ⟨g', q1, q2, q3, q4⟩ := m_runLog_loop d hb n60 (w.2.2.2.1 + 1) 0 r (hq_si h2 13 0 6 0) w.1 0 (by omega) (Nat.zero_le _) h0 H3 ok.1 B3 (by rw [hq_si_at, if_pos ⟨rfl, rfl, rfl⟩]; rfl) acc2.1 acc2.2
    have L := L3.trans q2
    rw [Nat.zero_add] at q4
    refine ⟨g', .int (nI (hl_run w.2.2.2.2 w.2.2.2.1 (w.2.2.2.1 + 1) 0 r w.1).1), ?_, hm_RM_lr R2 (hz_okW_save ok) L q1 q3, (hw_Mo_f5 h F').trans ((hw_Mo_13 _ 3 0).trans (s2.trans L.2.2.2.2.2.2)), ?_, rfl⟩
    · refine inX7_runLog (d + 5) 0 h _ _ (fun _ => trivial) (fun J b0 b28 b63 => b0 _ _ _ ?_)
      refine ⟨_, _, m, ?_⟩
      refine ⟨_, _, m_goes (d + 4) true true true (hm_f5 h F'), hq_nt hz_one0 ?_⟩
      exact ⟨_, m2, q4 J b28 b63⟩
    · rw [L.1 3 (by decide), t2, hm_th1]
  · rw [if_neg acc]
    rw [ts_nt acc] at m
    refine ⟨hq_si (hm_f5 h F') 13 0 3 1, .int 0, ?_, hm_RM_th 1 Rf ok, (hw_Mo_f5 h F').trans (hw_Mo_13 _ 3 1), ?_⟩
    · refine inX7_runLog (d + 5) 0 h _ _ (fun _ => trivial) (fun J b0 b28 b63 => b0 _ _ _ ?_)
      refine ⟨_, _, m, ?_⟩
      exact ⟨_, _, m_goes (d + 4) false true true (hm_f5 h F'), hq_nf rfl ⟨rfl, rfl⟩⟩
    · refine ⟨?_, _, rfl⟩
      rw [hm_th1]
      exact (if_pos rfl).symm
