-- ===== the first world: a house =====
def hc_ho (n : Nat) : hc_E := .inl (0, [.inr n, .inl .null, .inl (.int 0), .inl (.int 0), .inl (.int 0), .inl (.int 0), .inl (.int 0)])
def hc_hz : hc_E := .inl (0, [.inl .null, .inl .null, .inl (.int 0), .inl (.int 0), .inl (.int 0), .inl (.int 0), .inl (.int 0)])
def hc_hf (n : Nat) : hc_E := .inl (0, [.inr n, .inr (n + 11), .inl (.int 0), .inl (.int 0), .inl (.int 0), .inl (.int 0), .inl (.int 0)])
/-- the list of rules, i of them made -/
def hc_li (n i : Nat) : hc_E := .inr (5, 10, .inr (.inr (fun q => if q < i then some (n + 1 + q) else none)))
def hc_house (ws : List hc_E) (a i : Nat) : List hc_E := hc_st ws a (hc_ho ws.length) (hc_li ws.length i :: List.replicate i hc_rule)
theorem hc_house_len (ws : List hc_E) (a i : Nat) : (hc_house ws a i).length = ws.length + 1 + i := by
  unfold hc_house
  rw [hc_st_len, List.length_cons, List.length_replicate]
  omega
theorem hc_house_li {ws : List hc_E} (a i : Nat) : (hc_house ws a i)[ws.length]? = some (hc_li ws.length i) := by
  unfold hc_house hc_st
  rw [List.getElem?_append_right (by rw [List.length_set]; omega), List.length_set, Nat.sub_self]
  rfl
theorem hc_li_up (n i : Nat) : (.inr (5, 10, .inr (.inr (fun q => if q = i then some (n + 1 + i) else (fun q => if q < i then some (n + 1 + q) else none) q))) : hc_E) = hc_li n (i + 1) := by
  unfold hc_li
  congr 5
  funext q
  by_cases e : q = i
  · rw [if_pos e, if_pos (by omega), e]
  · rw [if_neg e]
    dsimp only
    by_cases l : q < i
    · rw [if_pos l, if_pos (by omega)]
    · rw [if_neg l, if_neg (by omega)]
theorem hc_house_next {ws : List hc_E} (a i : Nat) : (hc_house ws a i ++ [hc_rule]).set ws.length (hc_li ws.length (i + 1)) = hc_house ws a (i + 1) := by
  unfold hc_house
  rw [hc_st_app]
  unfold hc_st
  rw [List.set_append_right _ _ (by rw [List.length_set]; omega), List.length_set, Nat.sub_self]
  show ws.set a (hc_ho ws.length) ++ (hc_li ws.length (i + 1) :: (List.replicate i hc_rule ++ [hc_rule])) = _
  rw [List.replicate_succ']
def hc_sz_rep : ∀ i : Nat, hc_sz (List.replicate i hc_rule) = 7 * i
  | 0 => rfl
  | i + 1 => by
    rw [List.replicate_succ]
    show 7 + hc_sz (List.replicate i hc_rule) = 7 * (i + 1)
    rw [hc_sz_rep i]
    omega
theorem hc_li_0 (n : Nat) : hc_li n 0 = .inr (5, 10, .inr (.inr (fun _ => none))) := by
  unfold hc_li
  congr 5
theorem hc_house_sz {ws : List hc_E} {a : Nat} (i : Nat) (h0 : ws[a]? = some hc_hz) : hc_sz (hc_house ws a i) = hc_sz ws + 10 + 7 * i := by
  unfold hc_house
  rw [hc_st_sz (o' := hc_ho ws.length) _ h0 rfl]
  show hc_sz ws + (10 + hc_sz (List.replicate i hc_rule)) = _
  rw [hc_sz_rep]
  omega
set_option maxRecDepth 20000 in
theorem hc_X0 (d a : Nat) (ws : List hc_E) (h0 : ws[a]? = some hc_hz) : hc_Met (d + 2) MX0_init a ws (hc_st ws a (hc_hf ws.length) (hc_li ws.length 10 :: List.replicate 11 hc_rule)) 12 87 := by
  have al : a < ws.length := (List.getElem?_eq_some_iff.mp h0).1
  refine hc_intro (d := d + 1) miX0 ⟨hc_st_len _ _ _ _, hc_st_sz _ h0 rfl⟩ (fun _ => Nat.le_of_ble_eq_true rfl) ?_
  intro p l e R s m args below meth c D cy b la X hr hlk hnm P hl
  have mk : ∀ (H : Heap) (locs : List Loc) (cells slots : Nat) (Q : State → Prop) (la : Array Slot) (rest : List Value) (w2 : List hc_E) (pc : Nat), la.size = 2 → (rest.map fun v => v.category).sum ≤ 6 → w2.length + 1 ≤ ws.length + 12 → hc_sz w2 + 7 ≤ hc_sz ws + 87 → hc_P D cy b ws.length (hc_sz ws) s H locs cells slots w2 → decode cX0_init pc = .ok (.new 9, 3) → decode cX0_init (pc + 3) = .ok (.dup, 1) → decode cX0_init (pc + 3 + 1) = .ok (.invokespecial 17, 3) →
      (∀ (H1 : Heap) (locs1 : List Loc), hc_P D cy b ws.length (hc_sz ws) s H1 locs1 (cells + 1) (slots + 7) (w2 ++ [hc_rule]) → W p l e R s m args below meth c H1 locs1 (cells + 1) (slots + 7) Q (F0 m (pc + 3 + 1 + 3) la (.ref (b + w2.length) :: rest))) → W p l e R s m args below meth c H locs cells slots Q (F0 m pc la rest) := by
    intro H locs cells slots Q la rest w2 pc hla hrest r1 r2 P d1 d2 d3 kk
    refine hc_new (C := RX4) (T := TX4) (N := 7) (ci := 4) (vs := [.inl (.int 0), .inl (.int 0), .inl (.int 0), .inl (.int 0), .inl (.int 0), .inl (.int 0), .inl (.long 0)]) X P uX4 tyX4 tyX4_ok rfl wcC_X0_9 wcI_X4 wcN_X4 rfl rfl (fun j hj => ?_) r1 r2 d1 (fun H1 P => ?_)
    · rcases (show j = 0 ∨ j = 1 ∨ j = 2 ∨ j = 3 ∨ j = 4 ∨ j = 5 ∨ j = 6 by omega) with rfl | rfl | rfl | rfl | rfl | rfl | rfl <;> rfl
    refine lv_dup X.1 X.2.1 d2 rfl ?_
    refine hc_callN (mc := 0) (ms := 0) X P miX4 (hc_X4 d w2.length (w2 ++ [hc_rule])) X.2.2.2.2.2.2.1.1 hla ?_ (by rw [List.length_append]; exact r1) (by rw [hc_sz_app]; exact r2) d3 (fun H2 locs2 P2 => kk H2 locs2 P2)
    rw [List.map_cons, List.sum_cons]
    show 1 + _ ≤ 8
    omega
  refine lv_aload_n X.1 X.2.1 dX0_init_0 rfl (lv_at hl 0 rfl) ?_
  refine W.objInit X.1 X.2.1 X.2.2.2.1 (X.2.2.2.2.1 _ wcM_X0_3) (X.2.2.2.2.1 _ wcO_i) (X.2.2.2.2.1 _ wcO_c) rfl (by rw [X.2.2.1]; exact hl.1) rfl dX0_init_1 (by have := X.2.2.2.2.2.2.2.2.2.2.2.1; omega) (by have := X.2.2.2.2.2.2.2.2.2.2.2.2; show 2 * 0 + 0 + 12 ≤ R.locals; omega) ?_
  refine W.eq (g2 := F0 m 4 la []) rfl ?_
  refine lv_aload_n X.1 X.2.1 dX0_init_4 rfl (lv_at hl 0 rfl) ?_
  refine lv_bipush (v := 10) X.1 X.2.1 dX0_init_5 (by decide) ?_
  refine hc_newq (C := RX4) (t := 5) (N := 10) X P wcC_X0_9 X.2.2.2.2.2.2.1.2.2.1 rfl (by decide) rfl (by decide) (by omega) (by omega) dX0_init_7 (fun H1 P => ?_)
  rw [← hc_li_0 ws.length, show ws ++ [hc_li ws.length 0] = hc_st ws a hc_hz [hc_li ws.length 0] by rw [← List.nil_append [hc_li ws.length 0], ← hc_st_app, ← hc_st_0 h0]; rfl] at P
  refine hc_putF (k := 0) X P uX0 tyX0 tyX0_ok nmX0 rfl (hc_st_get _ _ al) rfl (by decide) (Nat.le_of_ble_eq_true rfl) wcF_X0_11 rfl hnm rfl rfl rfl dX0_init_10 (fun H1 locs1 P => ?_)
  rw [hc_st_set _ _ _ al] at P
  refine lv_iconst (v := 0) X.1 X.2.1 dX0_init_13 (by decide) ?_
  refine lv_istore_n (lv' := [(1, .int 0), (0, .ref (b + a))]) X.1 X.2.1 dX0_init_14 rfl hl (by decide) rfl (fun la hl => ?_)
  have key : ∀ k i, i + k = 10 → ∀ (H : Heap) (locs : List Loc) (cells slots : Nat) (la : Array Slot), hc_P D cy b ws.length (hc_sz ws) s H locs cells slots (hc_house ws a i) → lv_has la 2 [(1, .int (nI i)), (0, .ref (b + a))] → W p l e R s m args below meth c H locs cells slots (MQ below (hc_Qc b cy D (hc_st ws a (hc_hf ws.length) (hc_li ws.length 10 :: List.replicate 11 hc_rule))) args s 12 87 (hq_AA b)) (F0 m 15 la []) := by
    intro k
    induction k with
    | zero =>
      intro i hi H locs cells slots la P hl
      have hi : i = 10 := by omega
      subst hi
      refine lv_iload_n X.1 X.2.1 dX0_init_15 rfl (lv_at hl 0 rfl) ?_
      refine lv_aload_n X.1 X.2.1 dX0_init_16 rfl (lv_at hl 1 rfl) ?_
      refine hc_get (k := 0) (j := ws.length) X P uX0 rfl (hc_st_get _ _ al) rfl (by decide) wcF_X0_11 rfl dX0_init_17 ?_
      refine hc_alen (t := 5) (N := 10) (v := 10) X P (hc_house_li a 10) rfl rfl dX0_init_20 ?_
      refine lv_icmp_ge (tgt := 43) X.1 X.2.1 dX0_init_21 (by decide) (fun _ => ?_) (fun z => absurd (by decide) z)
      refine lv_aload_n X.1 X.2.1 dX0_init_43 rfl (lv_at hl 1 rfl) ?_
      refine mk H locs cells slots _ la _ (hc_house ws a 10) 44 hl.1 (Nat.le_of_ble_eq_true rfl) (by rw [hc_house_len]; omega) (by rw [hc_house_sz 10 h0]; omega) P dX0_init_44 dX0_init_47 dX0_init_48 (fun H1 locs1 P => ?_)
      rw [hc_house_len]
      unfold hc_house at P
      rw [hc_st_app] at P
      refine hc_putF (k := 1) X P uX0 tyX0 tyX0_ok nmX0 rfl (hc_st_get _ _ al) rfl (by decide) (Nat.le_of_ble_eq_true rfl) wcF_X0_18 rfl hnm rfl rfl rfl dX0_init_51 (fun H1 locs1 P => ?_)
      rw [hc_st_set _ _ _ al] at P
      exact hc_ret X P (hc_st_len _ _ _ _) (hc_st_sz _ h0 rfl) hr hlk dX0_init_54
    | succ k ih =>
      intro i hi H locs cells slots la P hl
      refine lv_iload_n X.1 X.2.1 dX0_init_15 rfl (lv_at hl 0 rfl) ?_
      refine lv_aload_n X.1 X.2.1 dX0_init_16 rfl (lv_at hl 1 rfl) ?_
      refine hc_get (k := 0) (j := ws.length) X P uX0 rfl (hc_st_get _ _ al) rfl (by decide) wcF_X0_11 rfl dX0_init_17 ?_
      refine hc_alen (t := 5) (N := 10) (v := 10) X P (hc_house_li a i) rfl rfl dX0_init_20 ?_
      refine lv_icmp_ge (tgt := 43) X.1 X.2.1 dX0_init_21 (by decide) (fun z => absurd z (nI_ge (a := i) (b := 10) (by omega) (by decide))) (fun _ => ?_)
      refine lv_aload_n X.1 X.2.1 dX0_init_24 rfl (lv_at hl 1 rfl) ?_
      refine hc_get (k := 0) (j := ws.length) X P uX0 rfl (hc_st_get _ _ al) rfl (by decide) wcF_X0_11 rfl dX0_init_25 ?_
      refine lv_iload_n X.1 X.2.1 dX0_init_28 rfl (lv_at hl 0 rfl) ?_
      refine mk H locs cells slots _ la _ (hc_house ws a i) 29 hl.1 (Nat.le_of_ble_eq_true rfl) (by rw [hc_house_len]; omega) (by rw [hc_house_sz i h0]; omega) P dX0_init_29 dX0_init_32 dX0_init_33 (fun H1 locs1 P => ?_)
      have ll := hc_house_len ws a i
      refine hc_ast (t := 5) (N := 10) (ja := ws.length) (i := i) (ci := 4) X P (by rw [List.getElem?_append_left (by omega)]; exact hc_house_li a i) rfl (by rw [List.getElem?_append_right (Nat.le_refl _), Nat.sub_self]; rfl) rfl (by omega) (by omega) dX0_init_36 (fun H1 locs1 P => ?_)
      rw [ll, show ws.length + 1 + i = ws.length + 1 + i from rfl, hc_li_up ws.length i, hc_house_next] at P
      refine lv_iinc (v := nI (i + 1)) (lv' := [(1, .int (nI (i + 1))), (0, .ref (b + a))]) X.1 X.2.1 dX0_init_37 hl (k := 0) rfl (nI_add i 1) (by decide) rfl (fun la hl => ?_)
      refine lv_goto (tgt := 15) X.1 X.2.1 dX0_init_40 (by decide) ?_
      exact ih (i + 1) (by omega) H1 locs1 _ _ la P hl
  exact key 10 0 rfl H1 locs1 _ _ la P hl
