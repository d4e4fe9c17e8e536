-- ===== the first world: the reference =====
section HCL
variable {p : Program} {l : Launch} {e : Env} {R : Room} {s : State} {m : MethodId} {args : Array Value} {below : List Frame} {meth : Method} {c : Code} {H : Heap} {locs : List Loc} {cells slots : Nat} {Q : State → Prop}
variable {D : va_G} {cy : Nat → ClassId} {b n0 S0 NC NS d : Nat} {M : hq_M} {ws : List hc_E} {pc : Nat} {la : Array Slot} {rest : List Value}
theorem hc_lald {N j i : Nat} {f : Nat → Int64} (X : hc_X M d D cy b n0 NC NS p R s m args c) (P : hc_P D cy b n0 S0 s H locs cells slots ws) (he : ws[j]? = some (.inr (2, N, .inr (.inl f)))) (hi : i < N) (hN : N < 2 ^ 31) (hdg : decode M.2.1 pc = .ok (.laload, 1)) (kk : W p l e R s m args below meth c H locs cells slots Q (F0 m (pc + 1) la (.long (f i) :: rest))) : W p l e R s m args below meth c H locs cells slots Q (F0 m pc la (.int (nI i) :: .ref (b + j) :: rest)) := by
  refine va_lald X.1 X.2.1 X.2.2.2.2.2.1 P.1 j 2 (hc_at b cy he) rfl (vp_in_nI hi hN) hdg ?_
  rw [nI_clamp (Nat.lt_trans hi hN)]
  exact kk
theorem hc_lasg {N j i : Nat} {f : Nat → Int64} {v : Int64} (X : hc_X M d D cy b n0 NC NS p R s m args c) (P : hc_P D cy b n0 S0 s H locs cells slots ws) (he : ws[j]? = some (.inr (2, N, .inr (.inl f)))) (hi : i < N) (hN : N < 2 ^ 31) (hdg : decode M.2.1 pc = .ok (.lastore, 1)) (kk : ∀ (H1 : Heap) (locs1 : List Loc), hc_P D cy b n0 S0 s H1 locs1 cells slots (ws.set j (.inr (2, N, .inr (.inl (fun q => if q = i then v else f q))))) → W p l e R s m args below meth c H1 locs1 cells slots Q (F0 m (pc + 1) la rest)) : W p l e R s m args below meth c H locs cells slots Q (F0 m pc la (.long v :: .int (nI i) :: .ref (b + j) :: rest)) := by
  obtain ⟨P1, P2, P3, P4⟩ := P
  refine va_last X.1 X.2.1 X.2.2.2.2.2.1 P1 (hc_wD b cy ws) P2 j 2 (hc_at b cy he) rfl (vp_in_nI hi hN) hdg (fun H1 locs1 hP1 hD1 hS1 => ?_)
  rw [nI_clamp (Nat.lt_trans hi hN)] at hP1
  have e7 : (hc_w b cy ws).set j (b + j, .inl (cy 2, N, .inr (.inl (vp_updL f i v)))) = hc_w b cy (ws.set j (.inr (2, N, .inr (.inl (fun q => if q = i then v else f q))))) := hc_set b cy ws j (.inr (2, N, .inr (.inl (fun q => if q = i then v else f q))))
  rw [e7] at hP1
  refine kk H1 locs1 ⟨hP1, hS1, by rw [List.length_set]; exact P3, ?_⟩
  exact P4.trans (hc_sz_set (e' := .inr (2, N, .inr (.inl (fun q => if q = i then v else f q)))) he rfl).symm
end HCL
theorem hc_st_at (ws : List hc_E) (a k : Nat) (o : hc_E) (L : List hc_E) : (hc_st ws a o L)[ws.length + k]? = L[k]? := by
  unfold hc_st
  rw [List.getElem?_append_right (by rw [List.length_set]; omega), List.length_set, Nat.add_sub_cancel_left]
theorem hc_st_seta (ws : List hc_E) (a k : Nat) (o x : hc_E) (L : List hc_E) : (hc_st ws a o L).set (ws.length + k) x = hc_st ws a o (L.set k x) := by
  unfold hc_st
  rw [List.set_append_right _ _ (by rw [List.length_set]; omega), List.length_set, Nat.add_sub_cancel_left]
def hc_lx (k r : Nat) : Int64 := if (nI k >>> (nI r &&& 31)) &&& 1 = 1 then (1 : Int64) <<< ((nI k).toInt64 &&& 63) else 0
def hc_lv : Nat → Nat → Int64
  | 0, _ => 0
  | k + 1, r => hc_lv k r ||| hc_lx k r
def hc_lf (i j : Nat) : Nat → Int64 := fun r => if r < 6 then (if r < j then hc_lv (i + 1) r else hc_lv i r) else 0
theorem hc_lf_0 : hc_lf 0 0 = fun _ => 0 := by
  funext r
  unfold hc_lf
  by_cases c : r < 6
  · rw [if_pos c, if_neg (Nat.not_lt_zero _)]
    rfl
  · rw [if_neg c]
theorem hc_lf_6 (i : Nat) : hc_lf i 6 = hc_lf (i + 1) 0 := by
  funext r
  unfold hc_lf
  by_cases c : r < 6
  · rw [if_pos c, if_pos c, if_pos c, if_neg (Nat.not_lt_zero _)]
  · rw [if_neg c, if_neg c]
theorem hc_lf_j (i j : Nat) (hj : j < 6) : hc_lf i j j = hc_lv i j := by
  unfold hc_lf
  rw [if_pos hj, if_neg (Nat.lt_irrefl _)]
theorem hc_lf_up (i j : Nat) (hj : j < 6) : (fun q => if q = j then hc_lv i j ||| hc_lx i j else hc_lf i j q) = hc_lf i (j + 1) := by
  funext q
  unfold hc_lf
  by_cases e : q = j
  · rw [if_pos e, if_pos (by omega), if_pos (by omega), e]
    rfl
  · rw [if_neg e]
    by_cases c : q < 6
    · rw [if_pos c, if_pos c]
      by_cases l : q < j
      · rw [if_pos l, if_pos (by omega)]
      · rw [if_neg l, if_neg (by omega)]
    · rw [if_neg c, if_neg c]
def hc_7z : hc_E := .inl (7, [.inl .null, .inl (.int 0), .inl (.int 0), .inl (.int 0), .inl .null, .inl (.int 0), .inl (.int 0), .inl (.int 0), .inl (.int 0), .inl (.int 0), .inl (.int 0), .inl .null, .inl .null, .inl .null, .inl .null, .inl (.int 0)])
def hc_7f (n : Nat) : hc_E := .inl (7, [.inr n, .inl (.int 0), .inl (.int 0), .inl (.int 0), .inr (n + 1), .inl (.int 0), .inl (.int 0), .inl (.int 0), .inl (.int 0), .inl (.int 0), .inl (.int 0), .inr (n + 2), .inr (n + 3), .inr (n + 4), .inr (n + 5), .inl (.int 0)])
def hc_7L (f : Nat → Int64) : List hc_E := [hc_iz 1 520, hc_iz 0 60, .inr (2, 6, .inr (.inl f)), hc_lz 10, hc_iz 3 4096, hc_iz 1 729]
set_option maxRecDepth 20000 in
set_option maxHeartbeats 1000000 in
theorem hc_X7 (d a : Nat) (ws : List hc_E) (h0 : ws[a]? = some hc_7z) : hc_Met (d + 1) MX7_init a ws (hc_st ws a (hc_7f ws.length) (hc_7L (hc_lf 64 0))) 6 5421 := by
  have al : a < ws.length := (List.getElem?_eq_some_iff.mp h0).1
  refine hc_intro miX7 ⟨hc_st_len _ _ _ _, hc_st_sz _ h0 rfl⟩ (fun _ => Nat.le_of_ble_eq_true rfl) ?_
  intro p l e R s m args below meth c D cy b la X hr hlk hnm P hl
  refine lv_aload_n X.1 X.2.1 dX7_init_0 rfl (lv_at hl 0 rfl) ?_
  refine W.objInit X.1 X.2.1 X.2.2.2.1 (X.2.2.2.2.1 _ wcM_X7_1) (X.2.2.2.2.1 _ wcO_i) (X.2.2.2.2.1 _ wcO_c) rfl (by rw [X.2.2.1]; exact hl.1) rfl dX7_init_1 (by have := X.2.2.2.2.2.2.2.2.2.2.2.1; omega) (by have := X.2.2.2.2.2.2.2.2.2.2.2.2; show 2 * 0 + 0 + 12 ≤ R.locals; omega) ?_
  refine W.eq (g2 := F0 m 4 la []) rfl ?_
  -- the row
  refine lv_aload_n X.1 X.2.1 dX7_init_4 rfl (lv_at hl 0 rfl) ?_
  refine lv_sipush (v := 520) X.1 X.2.1 dX7_init_5 (by decide) ?_
  refine hc_newa (atype := .int) (t := 1) (N := 520) (f := .inl (fun _ => 0)) X P wcA_int rfl (Or.inr (Or.inl rfl)) rfl rfl (fun _ => rfl) (by decide) (by decide) (by decide) (by omega) (by omega) dX7_init_8 (fun H1 P => ?_)
  rw [show ws ++ [.inr (1, 520, .inl (fun _ => 0))] = hc_st ws a hc_7z [hc_iz 1 520] by rw [← List.nil_append [hc_iz 1 520], ← hc_st_app, ← hc_st_0 h0]; rfl] at P
  refine hc_putF (k := 0) X P uX7 tyX7 tyX7_ok nmX7 rfl (hc_st_get _ _ al) rfl (by decide) (Nat.le_of_ble_eq_true rfl) wcF_X7_7 rfl hnm rfl rfl rfl dX7_init_10 (fun H1 locs1 P => ?_)
  rw [hc_st_set _ _ _ al] at P
  -- the text
  refine lv_aload_n X.1 X.2.1 dX7_init_13 rfl (lv_at hl 0 rfl) ?_
  refine lv_bipush (v := 60) X.1 X.2.1 dX7_init_14 (by decide) ?_
  refine hc_newa (atype := .char) (t := 0) (N := 60) (f := .inl (fun _ => 0)) X P wcA_char rfl (Or.inl rfl) rfl rfl (fun _ => rfl) (by decide) (by decide) (by decide) (by have := P.2.2.1; omega) (by have := P.2.2.2; omega) dX7_init_16 (fun H1 P => ?_)
  rw [hc_st_app] at P
  rw [hc_st_len]
  refine hc_putF (k := 4) X P uX7 tyX7 tyX7_ok nmX7 rfl (hc_st_get _ _ al) rfl (by decide) (Nat.le_of_ble_eq_true rfl) wcF_X7_13 rfl hnm rfl rfl rfl dX7_init_18 (fun H1 locs1 P => ?_)
  rw [hc_st_set _ _ _ al] at P
  -- lets
  refine lv_aload_n X.1 X.2.1 dX7_init_21 rfl (lv_at hl 0 rfl) ?_
  refine lv_bipush (v := 6) X.1 X.2.1 dX7_init_22 (by decide) ?_
  refine hc_newa (atype := .long) (t := 2) (N := 6) (f := .inr (.inl (fun _ => 0))) X P wcA_long rfl (Or.inr (Or.inr (Or.inl rfl))) rfl rfl (fun _ => rfl) (by decide) (by decide) (by decide) (by have := P.2.2.1; omega) (by have := P.2.2.2; omega) dX7_init_24 (fun H1 P => ?_)
  rw [hc_st_app] at P
  rw [hc_st_len]
  refine hc_putF (k := 11) X P uX7 tyX7 tyX7_ok nmX7 rfl (hc_st_get _ _ al) rfl (by decide) (Nat.le_of_ble_eq_true rfl) wcF_X7_17 rfl hnm rfl rfl rfl dX7_init_26 (fun H1 locs1 P => ?_)
  rw [hc_st_set _ _ _ al] at P
  -- holds
  refine lv_aload_n X.1 X.2.1 dX7_init_29 rfl (lv_at hl 0 rfl) ?_
  refine lv_bipush (v := 10) X.1 X.2.1 dX7_init_30 (by decide) ?_
  refine hc_newa (atype := .long) (t := 2) (N := 10) (f := .inr (.inl (fun _ => 0))) X P wcA_long rfl (Or.inr (Or.inr (Or.inl rfl))) rfl rfl (fun _ => rfl) (by decide) (by decide) (by decide) (by have := P.2.2.1; omega) (by have := P.2.2.2; omega) dX7_init_32 (fun H1 P => ?_)
  rw [hc_st_app] at P
  rw [hc_st_len]
  refine hc_putF (k := 12) X P uX7 tyX7 tyX7_ok nmX7 rfl (hc_st_get _ _ al) rfl (by decide) (Nat.le_of_ble_eq_true rfl) wcF_X7_21 rfl hnm rfl rfl rfl dX7_init_34 (fun H1 locs1 P => ?_)
  rw [hc_st_set _ _ _ al] at P
  -- isMade
  refine lv_aload_n X.1 X.2.1 dX7_init_37 rfl (lv_at hl 0 rfl) ?_
  refine lv_sipush (v := 4096) X.1 X.2.1 dX7_init_38 (by decide) ?_
  refine hc_newa (atype := .boolean) (t := 3) (N := 4096) (f := .inl (fun _ => 0)) X P wcA_boolean rfl (Or.inr (Or.inr (Or.inr rfl))) rfl rfl (fun _ => rfl) (by decide) (by decide) (by decide) (by have := P.2.2.1; omega) (by have := P.2.2.2; omega) dX7_init_41 (fun H1 P => ?_)
  rw [hc_st_app] at P
  rw [hc_st_len]
  refine hc_putF (k := 13) X P uX7 tyX7 tyX7_ok nmX7 rfl (hc_st_get _ _ al) rfl (by decide) (Nat.le_of_ble_eq_true rfl) wcF_X7_24 rfl hnm rfl rfl rfl dX7_init_43 (fun H1 locs1 P => ?_)
  rw [hc_st_set _ _ _ al] at P
  -- made
  refine lv_aload_n X.1 X.2.1 dX7_init_46 rfl (lv_at hl 0 rfl) ?_
  refine lv_sipush (v := 729) X.1 X.2.1 dX7_init_47 (by decide) ?_
  refine hc_newa (atype := .int) (t := 1) (N := 729) (f := .inl (fun _ => 0)) X P wcA_int rfl (Or.inr (Or.inl rfl)) rfl rfl (fun _ => rfl) (by decide) (by decide) (by decide) (by have := P.2.2.1; omega) (by have := P.2.2.2; omega) dX7_init_50 (fun H1 P => ?_)
  rw [hc_st_app] at P
  rw [hc_st_len]
  refine hc_putF (k := 14) X P uX7 tyX7 tyX7_ok nmX7 rfl (hc_st_get _ _ al) rfl (by decide) (Nat.le_of_ble_eq_true rfl) wcF_X7_28 rfl hnm rfl rfl rfl dX7_init_52 (fun H1 locs1 P => ?_)
  rw [hc_st_set _ _ _ al] at P
  have P : hc_P D cy b ws.length (hc_sz ws) s H1 locs1 _ _ (hc_st ws a (hc_7f ws.length) (hc_7L (fun _ => 0))) := P
  rw [← hc_lf_0] at P
  refine lv_iconst (v := 0) X.1 X.2.1 dX7_init_55 (by decide) ?_
  refine lv_istore_n (lv' := [(1, .int 0), (0, .ref (b + a))]) X.1 X.2.1 dX7_init_56 rfl hl (by decide) rfl (fun la hl => ?_)
  have key : ∀ k i, i + k = 64 → ∀ (H : Heap) (locs : List Loc) (cells slots : Nat) (la : Array Slot), hc_P D cy b ws.length (hc_sz ws) s H locs cells slots (hc_st ws a (hc_7f ws.length) (hc_7L (hc_lf i 0))) → lv_has la 3 [(1, .int (nI i)), (0, .ref (b + a))] → W p l e R s m args below meth c H locs cells slots (MQ below (hc_Qc b cy D (hc_st ws a (hc_7f ws.length) (hc_7L (hc_lf 64 0)))) args s 6 5421 (hq_AA b)) (F0 m 57 la []) := by
    intro k
    induction k with
    | zero =>
      intro i hi H locs cells slots la P hl
      have hi : i = 64 := by omega
      subst hi
      refine lv_iload_n X.1 X.2.1 dX7_init_57 rfl (lv_at hl 0 rfl) ?_
      refine lv_bipush (v := 64) X.1 X.2.1 dX7_init_58 (by decide) ?_
      refine lv_icmp_ge (tgt := 108) X.1 X.2.1 dX7_init_60 (by decide) (fun _ => ?_) (fun z => absurd (by decide) z)
      exact hc_ret X P (hc_st_len _ _ _ _) (hc_st_sz _ h0 rfl) hr hlk dX7_init_108
    | succ k ih =>
      intro i hi H locs cells slots la P hl
      refine lv_iload_n X.1 X.2.1 dX7_init_57 rfl (lv_at hl 0 rfl) ?_
      refine lv_bipush (v := 64) X.1 X.2.1 dX7_init_58 (by decide) ?_
      refine lv_icmp_ge (tgt := 108) X.1 X.2.1 dX7_init_60 (by decide) (fun z => absurd z (nI_ge (a := i) (b := 64) (by omega) (by decide))) (fun _ => ?_)
      refine lv_iconst (v := 0) X.1 X.2.1 dX7_init_63 (by decide) ?_
      refine lv_istore_n (lv' := [(2, .int 0), (1, .int (nI i)), (0, .ref (b + a))]) X.1 X.2.1 dX7_init_64 rfl hl (by decide) rfl (fun la hl => ?_)
      have inner : ∀ k2 j, j + k2 = 6 → ∀ (H : Heap) (locs : List Loc) (cells slots : Nat) (la : Array Slot), hc_P D cy b ws.length (hc_sz ws) s H locs cells slots (hc_st ws a (hc_7f ws.length) (hc_7L (hc_lf i j))) → lv_has la 3 [(2, .int (nI j)), (1, .int (nI i)), (0, .ref (b + a))] → W p l e R s m args below meth c H locs cells slots (MQ below (hc_Qc b cy D (hc_st ws a (hc_7f ws.length) (hc_7L (hc_lf 64 0)))) args s 6 5421 (hq_AA b)) (F0 m 65 la []) := by
        intro k2
        induction k2 with
        | zero =>
          intro j hj H locs cells slots la P hl
          have hj : j = 6 := by omega
          subst hj
          refine lv_iload_n X.1 X.2.1 dX7_init_65 rfl (lv_at hl 0 rfl) ?_
          refine lv_bipush (v := 6) X.1 X.2.1 dX7_init_66 (by decide) ?_
          refine lv_icmp_ge (tgt := 102) X.1 X.2.1 dX7_init_68 (by decide) (fun _ => ?_) (fun z => absurd (by decide) z)
          refine lv_iinc (v := nI (i + 1)) (lv' := [(1, .int (nI (i + 1))), (2, .int (nI 6)), (0, .ref (b + a))]) X.1 X.2.1 dX7_init_102 hl (k := 1) rfl (nI_add i 1) (by decide) rfl (fun la hl => ?_)
          refine lv_goto (tgt := 57) X.1 X.2.1 dX7_init_105 (by decide) ?_
          rw [hc_lf_6] at P
          exact ih (i + 1) (by omega) H locs _ _ la P (lv_sub hl [0, 2] rfl)
        | succ k2 ih2 =>
          intro j hj H locs cells slots la P hl
          have hj6 : j < 6 := by omega
          refine lv_iload_n X.1 X.2.1 dX7_init_65 rfl (lv_at hl 0 rfl) ?_
          refine lv_bipush (v := 6) X.1 X.2.1 dX7_init_66 (by decide) ?_
          refine lv_icmp_ge (tgt := 102) X.1 X.2.1 dX7_init_68 (by decide) (fun z => absurd z (nI_ge (a := j) (b := 6) (by omega) (by decide))) (fun _ => ?_)
          refine lv_aload_n X.1 X.2.1 dX7_init_71 rfl (lv_at hl 2 rfl) ?_
          refine hc_get (k := 11) (j := ws.length + 2) X P uX7 rfl (hc_st_get _ _ al) rfl (by decide) wcF_X7_17 rfl dX7_init_72 ?_
          refine lv_iload_n X.1 X.2.1 dX7_init_75 rfl (lv_at hl 0 rfl) ?_
          refine lv_dup2_11 X.1 X.2.1 dX7_init_76 rfl rfl ?_
          have at2 : (hc_st ws a (hc_7f ws.length) (hc_7L (hc_lf i j)))[ws.length + 2]? = some (.inr (2, 6, .inr (.inl (hc_lf i j)))) := hc_st_at ws a 2 _ _
          refine hc_lald (N := 6) (j := ws.length + 2) (i := j) X P at2 hj6 (by decide) dX7_init_77 ?_
          refine lv_iload_n X.1 X.2.1 dX7_init_78 rfl (lv_at hl 1 rfl) ?_
          refine lv_iload_n X.1 X.2.1 dX7_init_79 rfl (lv_at hl 0 rfl) ?_
          refine lv_ishr X.1 X.2.1 dX7_init_80 ?_
          refine lv_iconst (v := 1) X.1 X.2.1 dX7_init_81 (by decide) ?_
          refine lv_iand X.1 X.2.1 dX7_init_82 ?_
          refine lv_iconst (v := 1) X.1 X.2.1 dX7_init_83 (by decide) ?_
          have fin : ∀ x : Int64, x = hc_lx i j → W p l e R s m args below meth c H locs cells slots (MQ below (hc_Qc b cy D (hc_st ws a (hc_7f ws.length) (hc_7L (hc_lf 64 0)))) args s 6 5421 (hq_AA b)) (F0 m 94 la [.long x, .long (hc_lf i j j), .int (nI j), .ref (b + (ws.length + 2))]) := by
            intro x hx
            refine lv_lor X.1 X.2.1 dX7_init_94 ?_
            refine hc_lasg (N := 6) (j := ws.length + 2) (i := j) X P at2 hj6 (by decide) dX7_init_95 (fun H1 locs1 P => ?_)
            rw [hc_st_seta, hx, hc_lf_j i j hj6, hc_lf_up i j hj6] at P
            have P : hc_P D cy b ws.length (hc_sz ws) s H1 locs1 _ _ (hc_st ws a (hc_7f ws.length) (hc_7L (hc_lf i (j + 1)))) := P
            refine lv_iinc (v := nI (j + 1)) (lv' := [(2, .int (nI (j + 1))), (1, .int (nI i)), (0, .ref (b + a))]) X.1 X.2.1 dX7_init_96 hl (k := 0) rfl (nI_add j 1) (by decide) rfl (fun la hl => ?_)
            refine lv_goto (tgt := 65) X.1 X.2.1 dX7_init_99 (by decide) ?_
            exact ih2 (j + 1) (by omega) H1 locs1 _ _ la P hl
          refine lv_icmp_ne (tgt := 93) X.1 X.2.1 dX7_init_84 (by decide) (fun z => ?_) (fun z => ?_)
          · refine lv_lconst (v := 0) X.1 X.2.1 dX7_init_93 (by decide) ?_
            exact fin 0 (if_neg z).symm
          · refine lv_lconst (v := 1) X.1 X.2.1 dX7_init_87 (by decide) ?_
            refine lv_iload_n X.1 X.2.1 dX7_init_88 rfl (lv_at hl 1 rfl) ?_
            refine lv_lshl X.1 X.2.1 dX7_init_89 rfl ?_
            refine lv_goto (tgt := 94) X.1 X.2.1 dX7_init_90 (by decide) ?_
            exact fin _ (if_pos z).symm
      exact inner 6 0 rfl H locs _ _ la P hl
  exact key 64 0 rfl H1 locs1 _ _ la P hl
