-- ===== the start =====
set_option maxRecDepth 20000 in
set_option maxHeartbeats 4000000 in
/-- YOUR PART: from the entry, for every script of at most 2048 ints, the law comes to its end with true ('hflags': the launch's flags, for a law that throws: no stack traces) -/
theorem whole_start {p : Program} {e : Env} {s : State} {m : MethodId} {below : List Frame} {meth : Method} {c : Code} (l : Launch) (hflags : l.flags = flags0) {b L : Nat} {xs : Nat → Int32} (hL : L ≤ 2048) (C0 : lw_At p s m meth c b L xs) : W p l e room_1 s m #[Value.ref b] below meth c s.heap [] 0 0 (lw_Z below #[Value.ref b] s) (entryFrame m ([Value.ref b] : List Value).toArray 9) := by
  obtain ⟨hx, hb, hr, hml, hown, hts, hX, hbl, hlocks, hgv⟩ := id C0
  obtain ⟨hNN, hN, hZS, D, cy, hK⟩ := lw_entry C0
  have hws : ∀ w ∈ hq_ws, w.before #[Value.ref b] s = true := fun w hw => hts w (List.mem_filter.mp hw).1
  have hst : l.stackTraces = false := by
    unfold Launch.stackTraces
    rw [hflags]
    decide
  have hl := lv_entry ([.ref b]) (n := 9) (Nat.le_of_ble_eq_true rfl)
  rw [lg_entry_eq]
  generalize (lg_sl ([.ref b]) ++ List.replicate (9 - (lg_sl ([.ref b])).length) Slot.unset).toArray = la at hl ⊢
  have X : hc_X ML_law 4 D cy s.heap.size 0 1000 100000 p room_1 s m #[Value.ref b] c := ⟨hx, hb, hml, hown, hws, hK, hN, Nat.le_refl _, Nat.le_refl _, by decide, by decide, by decide, by decide⟩
  have P : hc_P D cy s.heap.size 0 0 s s.heap [] 0 0 [] := ⟨fun k q h => (by cases h), va_S.rf, rfl, rfl⟩
  refine hc_mk (d := 3) (C := RX6) (T := TX6) (N := 9) (ci := 6) (o := hc_6f) (L := hc_L7) (mc := 126) (ms := 2744) (vs := [.inl .null, .inl .null, .inl (.int 0), .inl .null, .inl .null, .inl (.int 0), .inl .null, .inl .null, .inl .null]) X P uX6 tyX6 tyX6_ok wcI_X6 wcN_X6 rfl rfl (fun j hj => by rcases (show j = 0 ∨ j = 1 ∨ j = 2 ∨ j = 3 ∨ j = 4 ∨ j = 5 ∨ j = 6 ∨ j = 7 ∨ j = 8 by omega) with rfl | rfl | rfl | rfl | rfl | rfl | rfl | rfl | rfl <;> rfl) wcC_L_8 miX6 (hc_X6 0) wcM_L_103 hl.1 (Nat.le_of_ble_eq_true rfl) (by decide) (by decide) dL_law_0 dL_law_3 dL_law_4 (fun H1 locs1 P => ?_)
  have P : hc_P D cy s.heap.size 0 0 s H1 locs1 (0 + 1 + 126) (0 + 9 + 2744) hc_W6 := P
  refine lv_astore_n (lv' := [(1, .ref (s.heap.size + 0)), (0, .ref b)]) hx hb dL_law_7 rfl hl (by decide) rfl (fun la hl => ?_)
  have q7 := hc_X7 3 hc_W6.length (hc_W6 ++ [hc_7z]) (hc_last hc_W6 hc_7z)
  have e128 : (hc_W6 ++ [hc_7z]).length = 128 := by
    rw [List.length_append, hc_W6_len.1]
    rfl
  rw [hc_new_is, e128] at q7
  refine hc_mk (d := 3) (C := RX7) (T := TX7) (N := 16) (ci := 7) (o := hc_7f 128) (L := hc_7L (hc_lf 64 0)) (mc := 6) (ms := 5421) (vs := [.inl .null, .inl (.int 0), .inl (.int 0), .inl (.int 0), .inl .null, .inl (.int 0), .inl (.int 0), .inl (.int 0), .inl (.int 0), .inl (.int 0), .inl (.int 0), .inl .null, .inl .null, .inl .null, .inl .null, .inl (.int 0)]) X P uX7 tyX7 tyX7_ok wcI_X7 wcN_X7 rfl rfl (fun j hj => by rcases (show j = 0 ∨ j = 1 ∨ j = 2 ∨ j = 3 ∨ j = 4 ∨ j = 5 ∨ j = 6 ∨ j = 7 ∨ j = 8 ∨ j = 9 ∨ j = 10 ∨ j = 11 ∨ j = 12 ∨ j = 13 ∨ j = 14 ∨ j = 15 by omega) with rfl | rfl | rfl | rfl | rfl | rfl | rfl | rfl | rfl | rfl | rfl | rfl | rfl | rfl | rfl | rfl <;> rfl) wcC_L_104 miX7 q7 wcM_L_106 hl.1 (Nat.le_of_ble_eq_true rfl) (by rw [hc_W6_len.1]; decide) (by rw [hc_W6_len.2]; decide) dL_law_8 dL_law_11 dL_law_12 (fun H1 locs1 P => ?_)
  have P : hc_P D cy s.heap.size 0 0 s H1 locs1 (0 + 1 + 126 + 1 + 6) (0 + 9 + 2744 + 16 + 5421) hc_W7 := P
  rw [hc_W6_len.1]
  refine lv_astore_n (lv' := [(2, .ref (s.heap.size + 127)), (1, .ref (s.heap.size + 0)), (0, .ref b)]) hx hb dL_law_15 rfl hl (by decide) rfl (fun la hl => ?_)
  refine lv_iconst (v := 1) hx hb dL_law_16 (by decide) ?_
  refine hc_newa (atype := .long) (t := 2) (N := 1) (f := .inr (.inl (fun _ => 0))) X P wcA_long rfl (Or.inr (Or.inr (Or.inl rfl))) rfl rfl (fun _ => rfl) (by decide) (by decide) (by decide) (by rw [hc_W7_len]; decide) (by have := P.2.2.2; omega) dL_law_17 (fun H1 P => ?_)
  have P : hc_P D cy s.heap.size 0 0 s H1 locs1 (0 + 1 + 126 + 1 + 6 + 1) (0 + 9 + 2744 + 16 + 5421 + 1) hc_W := P
  rw [hc_W7_len]
  refine lv_astore_n (lv' := [(3, .ref (s.heap.size + 134)), (2, .ref (s.heap.size + 127)), (1, .ref (s.heap.size + 0)), (0, .ref b)]) hx hb dL_law_19 rfl hl (by decide) rfl (fun la hl => ?_)
  refine lv_iconst (v := 0) hx hb dL_law_20 (by decide) ?_
  refine lv_istore (lv' := [(4, .int 0), (3, .ref (s.heap.size + 134)), (2, .ref (s.heap.size + 127)), (1, .ref (s.heap.size + 0)), (0, .ref b)]) hx hb dL_law_21 hl (by decide) rfl (fun la hl => ?_)
  refine @law_loop b L xs hL (L + 1) 0 0 w0_ h0_ none none none none (by omega) (by omega) (by omega) h0_RC h0_RM p l e room_1 s m #[Value.ref b] below meth c D cy s.heap.size H1 locs1 la _ _ _ ⟨hx, hb, hml, hown, hws, hK, hZS, hst, by decide, by decide, by decide, by decide⟩ ⟨hNN, hr, hlocks, hX, hbl, Nat.le_refl _, by decide, by decide, by decide, rfl, rfl, rfl⟩ (hc_final P.1) P.2.1 ⟨hl.1, hl.2.1, fun k v hk => ?_⟩ trivial (fun k v hk => ?_)
  · match k, hk with
    | 0, hk => cases hk; exact lv_at hl 4 rfl
    | 1, hk => cases hk; exact lv_at hl 3 rfl
    | 2, hk => cases hk; exact lv_at hl 2 rfl
    | 3, hk => cases hk; exact lv_at hl 1 rfl
    | 4, hk => cases hk; exact lv_at hl 0 rfl
    | 5, hk => cases hk
    | 6, hk => cases hk
    | 7, hk => cases hk
    | 8, hk => cases hk
    | k + 9, hk => cases hk
  · match k, hk with
    | 0, hk => cases hk; trivial
    | 1, hk => cases hk; show 0 < hq_cnt 3; decide
    | 2, hk => cases hk; show 0 < hq_cnt 13; decide
    | 3, hk => cases hk; show 0 < hq_cnt 20; decide
    | 4, hk => cases hk; trivial
    | 5, hk => cases hk
    | 6, hk => cases hk
    | 7, hk => cases hk
    | 8, hk => cases hk
    | k + 9, hk => cases hk
