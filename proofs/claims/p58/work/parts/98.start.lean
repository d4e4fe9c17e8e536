-- ===== the start =====
set_option maxRecDepth 20000 in
set_option maxHeartbeats 4000000 in
/-- YOUR PART: from the entry, for every script of at most 260 ints, the law comes to its end with true ('hflags': the launch's flags, for a law that throws: no stack traces) -/
theorem whole_start {p : Program} {e : Env} {s : State} {m : MethodId} {below : List Frame} {meth : Method} {c : Code} (l : Launch) (hflags : l.flags = flags0) {b L : Nat} {xs : Nat → Int32} (hL : L ≤ 260) (C0 : lw_At p s m meth c b L xs) : W p l e room_1 s m #[Value.ref b] below meth c s.heap [] 0 0 (lw_Z below #[Value.ref b] s) (entryFrame m ([Value.ref b] : List Value).toArray 8) := by
  obtain ⟨hx, hb, hr, hml, hown, hts, hX, hbl, hlocks, hgv⟩ := id C0
  obtain ⟨hNN, hN, hZS, D, cy, hK⟩ := lw_entry C0
  have hws : ∀ w ∈ hq_ws, w.before #[Value.ref b] s = true := fun w hw => hts w (List.mem_filter.mp hw).1
  have hst : l.stackTraces = false := by
    unfold Launch.stackTraces
    rw [hflags]
    decide
  have hl := lv_entry ([.ref b]) (n := 8) (Nat.le_of_ble_eq_true rfl)
  rw [lg_entry_eq]
  generalize (lg_sl ([.ref b]) ++ List.replicate (8 - (lg_sl ([.ref b])).length) Slot.unset).toArray = la at hl ⊢
  have X : hc_X ML_law 4 D cy s.heap.size 0 1000 100000 p room_1 s m #[Value.ref b] c := ⟨hx, hb, hml, hown, hws, hK, hN, Nat.le_refl _, Nat.le_refl _, by decide, by decide, by decide, by decide⟩
  have P : hc_P D cy s.heap.size 0 0 s s.heap [] 0 0 [] := ⟨fun k q h => (by cases h), va_S.rf, rfl, rfl⟩
  refine hc_mk (d := 3) (C := RX6) (T := TX6) (N := 9) (ci := 6) (o := hc_6f) (L := hc_L7) (mc := 126) (ms := 2744) (vs := [.inl .null, .inl .null, .inl (.int 0), .inl .null, .inl .null, .inl (.int 0), .inl .null, .inl .null, .inl .null]) X P uX6 tyX6 tyX6_ok wcI_X6 wcN_X6 rfl rfl (fun j hj => by rcases (show j = 0 ∨ j = 1 ∨ j = 2 ∨ j = 3 ∨ j = 4 ∨ j = 5 ∨ j = 6 ∨ j = 7 ∨ j = 8 by omega) with rfl | rfl | rfl | rfl | rfl | rfl | rfl | rfl | rfl <;> rfl) wcC_L_10 miX6 (hc_X6 0) wcM_L_231 hl.1 (Nat.le_of_ble_eq_true rfl) (by decide) (by decide) dL_law_0 dL_law_3 dL_law_4 (fun H1 locs1 P => ?_)
  have P : hc_P D cy s.heap.size 0 0 s H1 locs1 (0 + 1 + 126) (0 + 9 + 2744) hc_W := P
  refine lv_astore_n (lv' := [(1, .ref (s.heap.size + 0)), (0, .ref b)]) hx hb dL_law_7 rfl hl (by decide) rfl (fun la hl => ?_)
  refine @law_first b L xs hL p l e room_1 s m #[Value.ref b] below meth c D cy s.heap.size H1 locs1 la _ _ _ ⟨hx, hb, hml, hown, hws, hK, hZS, hst, by decide, by decide, by decide, by decide⟩ ⟨hNN, hr, hlocks, hX, hbl, Nat.le_refl _, by decide, by decide, by decide, rfl, rfl, rfl⟩ (hc_final P.1) P.2.1 ⟨hl.1, hl.2.1, fun k v hk => ?_⟩ trivial (fun k v hk => ?_)
  · match k, hk with
    | 0, hk => cases hk; exact lv_at hl 1 rfl
    | 1, hk => cases hk; exact lv_at hl 0 rfl
    | 2, hk => cases hk
    | 3, hk => cases hk
    | 4, hk => cases hk
    | 5, hk => cases hk
    | 6, hk => cases hk
    | 7, hk => cases hk
    | k + 8, hk => cases hk
  · match k, hk with
    | 0, hk => cases hk; trivial
    | 1, hk => cases hk; show 0 < hq_cnt 3; decide
    | 2, hk => cases hk
    | 3, hk => cases hk
    | 4, hk => cases hk
    | 5, hk => cases hk
    | 6, hk => cases hk
    | 7, hk => cases hk
    | k + 8, hk => cases hk
