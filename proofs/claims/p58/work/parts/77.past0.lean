-- ===== the first world: the past =====
/-- a whole house from the place j on -/
def hc_hc (j : Nat) : List hc_E := hc_hf (j + 1) :: hc_li (j + 1) 10 :: List.replicate 11 hc_rule
theorem hc_hc_is (w2 : List hc_E) : hc_st (w2 ++ [hc_hz]) w2.length (hc_hf (w2 ++ [hc_hz]).length) (hc_li (w2 ++ [hc_hz]).length 10 :: List.replicate 11 hc_rule) = w2 ++ hc_hc w2.length := by
  unfold hc_st hc_hc
  rw [List.set_append_right _ _ (Nat.le_refl _), Nat.sub_self, List.length_append]
  show w2 ++ [hc_hf (w2.length + 1)] ++ _ = _
  rw [List.append_assoc]
  rfl
section HCH
variable {p : Program} {l : Launch} {e : Env} {R : Room} {s : State} {m : MethodId} {args : Array Value} {below : List Frame} {meth : Method} {c : Code} {H : Heap} {locs : List Loc} {cells slots : Nat} {Q : State → Prop}
variable {D : va_G} {cy : Nat → ClassId} {b n0 S0 NC NS d : Nat} {M : hq_M} {w2 : List hc_E} {pc : Nat} {la : Array Slot} {rest : List Value}
/-- a new house, built -/
theorem hc_mkH {ik ic : Nat} (X : hc_X M (d + 2) D cy b n0 NC NS p R s m args c) (P : hc_P D cy b n0 S0 s H locs cells slots w2) (hcl : Cond.classLink M.1.cls ik RX0 ∈ hq_ws) (hml : Cond.methodLink M.1.cls ic yX0_init ∈ hq_ws) (hla : la.size = M.2.2.1) (hrest : (rest.map fun v => v.category).sum ≤ 6) (r1 : w2.length + 13 ≤ n0 + NC) (r2 : hc_sz w2 + 94 ≤ S0 + NS) (d1 : decode M.2.1 pc = .ok (.new ik, 3)) (d2 : decode M.2.1 (pc + 3) = .ok (.dup, 1)) (d3 : decode M.2.1 (pc + 3 + 1) = .ok (.invokespecial ic, 3))
    (kk : ∀ (H1 : Heap) (locs1 : List Loc), hc_P D cy b n0 S0 s H1 locs1 (cells + 1 + 12) (slots + 7 + 87) (w2 ++ hc_hc w2.length) → W p l e R s m args below meth c H1 locs1 (cells + 1 + 12) (slots + 7 + 87) Q (F0 m (pc + 3 + 1 + 3) la (.ref (b + w2.length) :: rest))) : W p l e R s m args below meth c H locs cells slots Q (F0 m pc la rest) := by
  refine hc_new (C := RX0) (T := TX0) (N := 7) (ci := 0) (vs := [.inl .null, .inl .null, .inl (.int 0), .inl (.int 0), .inl (.int 0), .inl (.int 0), .inl (.int 0)]) X P uX0 tyX0 tyX0_ok rfl hcl wcI_X0 wcN_X0 rfl rfl (fun j hj => ?_) (by omega) (by omega) d1 (fun H1 P => ?_)
  · rcases (show j = 0 ∨ j = 1 ∨ j = 2 ∨ j = 3 ∨ j = 4 ∨ j = 5 ∨ j = 6 by omega) with rfl | rfl | rfl | rfl | rfl | rfl | rfl <;> rfl
  refine lv_dup X.1 X.2.1 d2 rfl ?_
  have hmet := hc_X0 d w2.length (w2 ++ [hc_hz]) (by rw [List.getElem?_append_right (Nat.le_refl _), Nat.sub_self]; rfl)
  rw [hc_hc_is] at hmet
  have el := hmet.1
  refine hc_call (d := d + 1) X P miX0 hmet hml hla ?_ ?_ ?_ d3 (fun H2 locs2 P2 => kk H2 locs2 P2)
  · rw [List.map_cons, List.sum_cons]
    show 1 + _ ≤ 8
    omega
  · rw [el.1, List.length_append]
    show w2.length + 1 + 12 ≤ _
    omega
  · rw [el.2, hc_sz_app]
    show hc_sz w2 + 7 + 87 ≤ _
    omega
end HCH
def hc_po (n : Nat) : hc_E := .inl (3, [.inr n, .inl .null, .inl (.int 0), .inl (.int 0)])
def hc_pz : hc_E := .inl (3, [.inl .null, .inl .null, .inl (.int 0), .inl (.int 0)])
def hc_pf (n : Nat) : hc_E := .inl (3, [.inr n, .inr (n + 79), .inl (.int 0), .inl (.int 0)])
def hc_ri (n i : Nat) : hc_E := .inr (4, 6, .inr (.inr (fun q => if q < i then some (n + 1 + 13 * q) else none)))
def hc_hcs (n : Nat) : Nat → List hc_E
  | 0 => []
  | i + 1 => hc_hcs n i ++ hc_hc (n + 1 + 13 * i)
theorem hc_hcs_len (n : Nat) : ∀ i, (hc_hcs n i).length = 13 * i
  | 0 => rfl
  | i + 1 => by
    show (hc_hcs n i ++ hc_hc (n + 1 + 13 * i)).length = _
    rw [List.length_append, hc_hcs_len n i]
    show 13 * i + 13 = _
    omega
theorem hc_hcs_sz (n : Nat) : ∀ i, hc_sz (hc_hcs n i) = 94 * i
  | 0 => rfl
  | i + 1 => by
    show hc_sz (hc_hcs n i ++ hc_hc (n + 1 + 13 * i)) = _
    rw [hc_sz_app, hc_hcs_sz n i]
    show 94 * i + 94 = _
    omega
def hc_past (ws : List hc_E) (a i : Nat) : List hc_E := hc_st ws a (hc_po ws.length) (hc_ri ws.length i :: hc_hcs ws.length i)
theorem hc_past_len (ws : List hc_E) (a i : Nat) : (hc_past ws a i).length = ws.length + 1 + 13 * i := by
  unfold hc_past
  rw [hc_st_len, List.length_cons, hc_hcs_len]
  omega
theorem hc_past_ri {ws : List hc_E} (a i : Nat) : (hc_past ws a i)[ws.length]? = some (hc_ri ws.length i) := by
  unfold hc_past hc_st
  rw [List.getElem?_append_right (by rw [List.length_set]; omega), List.length_set, Nat.sub_self]
  rfl
theorem hc_ri_up (n i : Nat) : (.inr (4, 6, .inr (.inr (fun q => if q = i then some (n + 1 + 13 * i) else (fun q => if q < i then some (n + 1 + 13 * q) else none) q))) : hc_E) = hc_ri n (i + 1) := by
  unfold hc_ri
  congr 5
  funext q
  by_cases e : q = i
  · rw [if_pos e, if_pos (by omega), e]
  · rw [if_neg e]
    dsimp only
    by_cases l : q < i
    · rw [if_pos l, if_pos (by omega)]
    · rw [if_neg l, if_neg (by omega)]
theorem hc_st_app2 (ws : List hc_E) (a : Nat) (o : hc_E) (L L2 : List hc_E) : hc_st ws a o L ++ L2 = hc_st ws a o (L ++ L2) := by
  unfold hc_st
  rw [List.append_assoc]
theorem hc_past_next {ws : List hc_E} (a i : Nat) : (hc_past ws a i ++ hc_hc (hc_past ws a i).length).set ws.length (hc_ri ws.length (i + 1)) = hc_past ws a (i + 1) := by
  rw [hc_past_len]
  unfold hc_past
  rw [hc_st_app2]
  unfold hc_st
  rw [List.set_append_right _ _ (by rw [List.length_set]; omega), List.length_set, Nat.sub_self]
  rfl
theorem hc_ri_0 (n : Nat) : hc_ri n 0 = .inr (4, 6, .inr (.inr (fun _ => none))) := by
  unfold hc_ri
  congr 5
theorem hc_past_sz {ws : List hc_E} {a : Nat} (i : Nat) (h0 : ws[a]? = some hc_pz) : hc_sz (hc_past ws a i) = hc_sz ws + 6 + 94 * i := by
  unfold hc_past
  rw [hc_st_sz (o' := hc_po ws.length) _ h0 rfl]
  show hc_sz ws + (6 + hc_sz (hc_hcs ws.length i)) = _
  rw [hc_hcs_sz]
  omega
set_option maxRecDepth 20000 in
theorem hc_X3 (d a : Nat) (ws : List hc_E) (h0 : ws[a]? = some hc_pz) : hc_Met (d + 3) MX3_init a ws (hc_st ws a (hc_pf ws.length) (hc_ri ws.length 6 :: hc_hcs ws.length 7)) 92 664 := by
  have al : a < ws.length := (List.getElem?_eq_some_iff.mp h0).1
  have fl : (hc_st ws a (hc_pf ws.length) (hc_ri ws.length 6 :: hc_hcs ws.length 7)).length = ws.length + 92 := by
    rw [hc_st_len, List.length_cons, hc_hcs_len]
  have fz : hc_sz (hc_st ws a (hc_pf ws.length) (hc_ri ws.length 6 :: hc_hcs ws.length 7)) = hc_sz ws + 664 := by
    rw [hc_st_sz (o' := hc_pf ws.length) _ h0 rfl]
    show hc_sz ws + (6 + hc_sz (hc_hcs ws.length 7)) = _
    rw [hc_hcs_sz]
  refine hc_intro (d := d + 2) miX3 ⟨fl, fz⟩ (fun _ => Nat.le_of_ble_eq_true rfl) ?_
  intro p l e R s m args below meth c D cy b la X hr hlk hnm P hl
  refine lv_aload_n X.1 X.2.1 dX3_init_0 rfl (lv_at hl 0 rfl) ?_
  refine W.objInit X.1 X.2.1 X.2.2.2.1 (X.2.2.2.2.1 _ wcM_X3_3) (X.2.2.2.2.1 _ wcO_i) (X.2.2.2.2.1 _ wcO_c) rfl (by rw [X.2.2.1]; exact hl.1) rfl dX3_init_1 (by have := X.2.2.2.2.2.2.2.2.2.2.2.1; omega) (by have := X.2.2.2.2.2.2.2.2.2.2.2.2; show 2 * 0 + 0 + 12 ≤ R.locals; omega) ?_
  refine W.eq (g2 := F0 m 4 la []) rfl ?_
  refine lv_aload_n X.1 X.2.1 dX3_init_4 rfl (lv_at hl 0 rfl) ?_
  refine lv_bipush (v := 6) X.1 X.2.1 dX3_init_5 (by decide) ?_
  refine hc_newq (C := RX0) (t := 4) (N := 6) X P wcC_X3_9 X.2.2.2.2.2.2.1.2.2.2 rfl (by decide) rfl (by decide) (by omega) (by omega) dX3_init_7 (fun H1 P => ?_)
  rw [← hc_ri_0 ws.length, show ws ++ [hc_ri ws.length 0] = hc_st ws a hc_pz [hc_ri ws.length 0] by rw [← List.nil_append [hc_ri ws.length 0], ← hc_st_app, ← hc_st_0 h0]; rfl] at P
  refine hc_putF (k := 0) X P uX3 tyX3 tyX3_ok nmX3 rfl (hc_st_get _ _ al) rfl (by decide) (Nat.le_of_ble_eq_true rfl) wcF_X3_11 rfl hnm rfl rfl rfl dX3_init_10 (fun H1 locs1 P => ?_)
  rw [hc_st_set _ _ _ al] at P
  refine lv_iconst (v := 0) X.1 X.2.1 dX3_init_13 (by decide) ?_
  refine lv_istore_n (lv' := [(1, .int 0), (0, .ref (b + a))]) X.1 X.2.1 dX3_init_14 rfl hl (by decide) rfl (fun la hl => ?_)
  have key : ∀ k i, i + k = 6 → ∀ (H : Heap) (locs : List Loc) (cells slots : Nat) (la : Array Slot), hc_P D cy b ws.length (hc_sz ws) s H locs cells slots (hc_past ws a i) → lv_has la 2 [(1, .int (nI i)), (0, .ref (b + a))] → W p l e R s m args below meth c H locs cells slots (MQ below (hc_Qc b cy D (hc_st ws a (hc_pf ws.length) (hc_ri ws.length 6 :: hc_hcs ws.length 7))) args s 92 664 (hq_AA b)) (F0 m 15 la []) := by
    intro k
    induction k with
    | zero =>
      intro i hi H locs cells slots la P hl
      have hi : i = 6 := by omega
      subst hi
      refine lv_iload_n X.1 X.2.1 dX3_init_15 rfl (lv_at hl 0 rfl) ?_
      refine lv_aload_n X.1 X.2.1 dX3_init_16 rfl (lv_at hl 1 rfl) ?_
      refine hc_get (k := 0) (j := ws.length) X P uX3 rfl (hc_st_get _ _ al) rfl (by decide) wcF_X3_11 rfl dX3_init_17 ?_
      refine hc_alen (t := 4) (N := 6) (v := 6) X P (hc_past_ri a 6) rfl rfl dX3_init_20 ?_
      refine lv_icmp_ge (tgt := 43) X.1 X.2.1 dX3_init_21 (by decide) (fun _ => ?_) (fun z => absurd (by decide) z)
      refine lv_aload_n X.1 X.2.1 dX3_init_43 rfl (lv_at hl 1 rfl) ?_
      refine hc_mkH X P wcC_X3_9 wcM_X3_17 hl.1 (Nat.le_of_ble_eq_true rfl) (by rw [hc_past_len]; omega) (by rw [hc_past_sz 6 h0]; omega) dX3_init_44 dX3_init_47 dX3_init_48 (fun H1 locs1 P => ?_)
      rw [hc_past_len] at P ⊢
      unfold hc_past at P
      rw [hc_st_app2] at P
      refine hc_putF (k := 1) X P uX3 tyX3 tyX3_ok nmX3 rfl (hc_st_get _ _ al) rfl (by decide) (Nat.le_of_ble_eq_true rfl) wcF_X3_18 rfl hnm rfl rfl rfl dX3_init_51 (fun H1 locs1 P => ?_)
      rw [hc_st_set _ _ _ al] at P
      exact hc_ret X P fl fz hr hlk dX3_init_54
    | succ k ih =>
      intro i hi H locs cells slots la P hl
      refine lv_iload_n X.1 X.2.1 dX3_init_15 rfl (lv_at hl 0 rfl) ?_
      refine lv_aload_n X.1 X.2.1 dX3_init_16 rfl (lv_at hl 1 rfl) ?_
      refine hc_get (k := 0) (j := ws.length) X P uX3 rfl (hc_st_get _ _ al) rfl (by decide) wcF_X3_11 rfl dX3_init_17 ?_
      refine hc_alen (t := 4) (N := 6) (v := 6) X P (hc_past_ri a i) rfl rfl dX3_init_20 ?_
      refine lv_icmp_ge (tgt := 43) X.1 X.2.1 dX3_init_21 (by decide) (fun z => absurd z (nI_ge (a := i) (b := 6) (by omega) (by decide))) (fun _ => ?_)
      refine lv_aload_n X.1 X.2.1 dX3_init_24 rfl (lv_at hl 1 rfl) ?_
      refine hc_get (k := 0) (j := ws.length) X P uX3 rfl (hc_st_get _ _ al) rfl (by decide) wcF_X3_11 rfl dX3_init_25 ?_
      refine lv_iload_n X.1 X.2.1 dX3_init_28 rfl (lv_at hl 0 rfl) ?_
      refine hc_mkH X P wcC_X3_9 wcM_X3_17 hl.1 (Nat.le_of_ble_eq_true rfl) (by rw [hc_past_len]; omega) (by rw [hc_past_sz i h0]; omega) dX3_init_29 dX3_init_32 dX3_init_33 (fun H1 locs1 P => ?_)
      have ll := hc_past_len ws a i
      refine hc_ast (t := 4) (N := 6) (ja := ws.length) (i := i) (ci := 0) X P (by rw [List.getElem?_append_left (by omega)]; exact hc_past_ri a i) rfl (by rw [List.getElem?_append_right (Nat.le_refl _), Nat.sub_self]; rfl) rfl (by omega) (by omega) dX3_init_36 (fun H1 locs1 P => ?_)
      have e9 : (.inr (4, 6, .inr (.inr (fun q => if q = i then some (hc_past ws a i).length else (fun q => if q < i then some (ws.length + 1 + 13 * q) else none) q))) : hc_E) = hc_ri ws.length (i + 1) := by
        rw [ll]
        exact hc_ri_up ws.length i
      rw [e9, hc_past_next] at P
      refine lv_iinc (v := nI (i + 1)) (lv' := [(1, .int (nI (i + 1))), (0, .ref (b + a))]) X.1 X.2.1 dX3_init_37 hl (k := 0) rfl (nI_add i 1) (by decide) rfl (fun la hl => ?_)
      refine lv_goto (tgt := 15) X.1 X.2.1 dX3_init_40 (by decide) ?_
      exact ih (i + 1) (by omega) H1 locs1 _ _ la P hl
  exact key 6 0 rfl H1 locs1 _ _ la P hl
