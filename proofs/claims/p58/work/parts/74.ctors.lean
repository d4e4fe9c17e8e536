-- ===== the first world: the small constructors =====
/-- ws with the cell at a changed, and new ones behind -/
def hc_st (ws : List hc_E) (a : Nat) (o : hc_E) (L : List hc_E) : List hc_E := ws.set a o ++ L
theorem hc_st_len (ws : List hc_E) (a : Nat) (o : hc_E) (L : List hc_E) : (hc_st ws a o L).length = ws.length + L.length := by
  unfold hc_st
  rw [List.length_append, List.length_set]
theorem hc_st_get {ws : List hc_E} {a : Nat} (o : hc_E) (L : List hc_E) (h : a < ws.length) : (hc_st ws a o L)[a]? = some o := by
  unfold hc_st
  rw [List.getElem?_append_left (by rw [List.length_set]; exact h), List.getElem?_set_self h]
theorem hc_st_set {ws : List hc_E} {a : Nat} (o o' : hc_E) (L : List hc_E) (h : a < ws.length) : (hc_st ws a o L).set a o' = hc_st ws a o' L := by
  unfold hc_st
  rw [List.set_append_left _ _ (by rw [List.length_set]; exact h), List.set_set]
theorem hc_st_app (ws : List hc_E) (a : Nat) (o e : hc_E) (L : List hc_E) : hc_st ws a o L ++ [e] = hc_st ws a o (L ++ [e]) := by
  unfold hc_st
  rw [List.append_assoc]
theorem hc_st_0 {ws : List hc_E} {a : Nat} {o : hc_E} (h : ws[a]? = some o) : ws = hc_st ws a o [] := by
  unfold hc_st
  rw [List.append_nil]
  apply List.ext_getElem?
  intro i
  by_cases e : a = i
  · subst e
    rw [List.getElem?_set_self (List.getElem?_eq_some_iff.mp h).1, h]
  · rw [List.getElem?_set_ne e]
theorem hc_st_sz {ws : List hc_E} {a : Nat} {o o' : hc_E} (L : List hc_E) (h : ws[a]? = some o) (hs : hc_se o' = hc_se o) : hc_sz (hc_st ws a o' L) = hc_sz ws + hc_sz L := by
  unfold hc_st
  rw [hc_sz_app, hc_sz_set h hs]
def hc_rule : hc_E := .inl (4, [.inl (.int 0), .inl (.int 0), .inl (.int 0), .inl (.int 0), .inl (.int 0), .inl (.int 0), .inl (.long 0)])
def hc_reader : hc_E := .inl (2, [.inl (.int 0), .inl (.int 0), .inl (.int 0), .inl (.int 0), .inl (.int 0), .inl (.int 0), .inl (.int 0)])
theorem hc_X4 (d a : Nat) (ws : List hc_E) : hc_Met (d + 1) MX4_init a ws ws 0 0 := by
  refine hc_intro miX4 ⟨rfl, rfl⟩ (fun _ => Nat.le_of_ble_eq_true rfl) ?_
  intro p l e R s m args below meth c D cy b la X hr hlk hnm P hl
  refine lv_aload_n X.1 X.2.1 dX4_init_0 rfl (lv_at hl 0 rfl) ?_
  refine W.objInit X.1 X.2.1 X.2.2.2.1 (X.2.2.2.2.1 _ wcM_X4_3) (X.2.2.2.2.1 _ wcO_i) (X.2.2.2.2.1 _ wcO_c) rfl (by rw [X.2.2.1]; exact hl.1) rfl dX4_init_1 (by have := X.2.2.2.2.2.2.2.2.2.2.2.1; omega) (by have := X.2.2.2.2.2.2.2.2.2.2.2.2; show 2 * 0 + 0 + 12 ≤ R.locals; omega) ?_
  refine W.eq (g2 := F0 m 4 la []) rfl ?_
  exact hc_ret X P rfl rfl hr hlk dX4_init_4
theorem hc_X2 (d a : Nat) (ws : List hc_E) : hc_Met (d + 1) MX2_init a ws ws 0 0 := by
  refine hc_intro miX2 ⟨rfl, rfl⟩ (fun _ => Nat.le_of_ble_eq_true rfl) ?_
  intro p l e R s m args below meth c D cy b la X hr hlk hnm P hl
  refine lv_aload_n X.1 X.2.1 dX2_init_0 rfl (lv_at hl 0 rfl) ?_
  refine W.objInit X.1 X.2.1 X.2.2.2.1 (X.2.2.2.2.1 _ wcM_X2_3) (X.2.2.2.2.1 _ wcO_i) (X.2.2.2.2.1 _ wcO_c) rfl (by rw [X.2.2.1]; exact hl.1) rfl dX2_init_1 (by have := X.2.2.2.2.2.2.2.2.2.2.2.1; omega) (by have := X.2.2.2.2.2.2.2.2.2.2.2.2; show 2 * 0 + 0 + 12 ≤ R.locals; omega) ?_
  refine W.eq (g2 := F0 m 4 la []) rfl ?_
  exact hc_ret X P rfl rfl hr hlk dX2_init_4
def hc_lz (n : Nat) : hc_E := .inr (2, n, .inr (.inl (fun _ => 0)))
def hc_iz (t n : Nat) : hc_E := .inr (t, n, .inl (fun _ => 0))
set_option maxRecDepth 20000 in
theorem hc_X5 (d a : Nat) (ws : List hc_E) (h0 : ws[a]? = some (.inl (5, [.inl .null]))) : hc_Met (d + 1) MX5_init a ws (hc_st ws a (.inl (5, [.inr ws.length])) [hc_lz 1024]) 1 1024 := by
  have al : a < ws.length := (List.getElem?_eq_some_iff.mp h0).1
  refine hc_intro miX5 ⟨hc_st_len _ _ _ _, hc_st_sz _ h0 rfl⟩ (fun _ => Nat.le_of_ble_eq_true rfl) ?_
  intro p l e R s m args below meth c D cy b la X hr hlk hnm P hl
  refine lv_aload_n X.1 X.2.1 dX5_init_0 rfl (lv_at hl 0 rfl) ?_
  refine W.objInit X.1 X.2.1 X.2.2.2.1 (X.2.2.2.2.1 _ wcM_X5_3) (X.2.2.2.2.1 _ wcO_i) (X.2.2.2.2.1 _ wcO_c) rfl (by rw [X.2.2.1]; exact hl.1) rfl dX5_init_1 (by have := X.2.2.2.2.2.2.2.2.2.2.2.1; omega) (by have := X.2.2.2.2.2.2.2.2.2.2.2.2; show 2 * 0 + 0 + 12 ≤ R.locals; omega) ?_
  refine W.eq (g2 := F0 m 4 la []) rfl ?_
  refine lv_aload_n X.1 X.2.1 dX5_init_4 rfl (lv_at hl 0 rfl) ?_
  refine lv_sipush (v := 1024) X.1 X.2.1 dX5_init_5 (by decide) ?_
  refine hc_newa (atype := .long) (t := 2) (N := 1024) (f := .inr (.inl (fun _ => 0))) X P wcA_long rfl (Or.inr (Or.inr (Or.inl rfl))) rfl rfl (fun _ => rfl) (by decide) (by decide) (by decide) (by omega) (by omega) dX5_init_8 (fun H1 P => ?_)
  rw [show ws ++ [.inr (2, 1024, .inr (.inl (fun _ => 0)))] = hc_st ws a (.inl (5, [.inl .null])) [hc_lz 1024] by rw [← List.nil_append [hc_lz 1024], ← hc_st_app, ← hc_st_0 h0]; rfl] at P
  refine hc_putF (k := 0) X P uX5 tyX5 tyX5_ok nmX5 rfl (hc_st_get _ _ al) rfl (by decide) (by decide) wcF_X5_9 rfl hnm rfl rfl rfl dX5_init_10 (fun H1 locs1 P => ?_)
  rw [hc_st_set _ _ _ al] at P
  exact hc_ret X P (hc_st_len _ _ _ _) (hc_st_sz _ h0 rfl) hr hlk dX5_init_13
