-- ===== what the start gives (printed by wip/gen/gen_entry.py) =====
theorem wt_n1 : Cond.methodLinkNest RX0 17 yX4_init RX6 ∈ lw_tbl := List.mem_append_right _ (List.mem_append_left _ (List.mem_of_getElem? (i := 35) rfl))
theorem wt_n2 : Cond.methodLinkNest RX6 40 yX2_init RX6 ∈ lw_tbl := List.mem_append_right _ (List.mem_append_left _ (List.mem_of_getElem? (i := 128) rfl))
theorem wt_o4 : Cond.arrayOver (.object RX4) ∈ lw_tbl := List.mem_append_right _ (List.mem_append_left _ (List.mem_of_getElem? (i := 33) rfl))
theorem wt_o0 : Cond.arrayOver (.object RX0) ∈ lw_tbl := List.mem_append_right _ (List.mem_append_left _ (List.mem_of_getElem? (i := 110) rfl))
theorem wt_a_int : Cond.arrayClass .int ∈ lw_tbl := List.mem_append_right _ (List.mem_append_left _ (List.mem_of_getElem? (i := 147) rfl))
theorem wt_a_long : Cond.arrayClass .long ∈ lw_tbl := List.mem_append_right _ (List.mem_append_left _ (List.mem_of_getElem? (i := 165) rfl))
theorem wt_l1 : Cond.laysStatic Bundle.tN "UNASSIGNED_STACK" Bundle.steD ∈ lw_tbl := List.mem_append_right _ (List.mem_append_right _ (List.mem_append_left _ (List.mem_of_getElem? (i := 24) rfl)))
theorem wt_l2 : Cond.laysStatic Bundle.tN "SUPPRESSED_SENTINEL" Bundle.listD ∈ lw_tbl := List.mem_append_right _ (List.mem_append_right _ (List.mem_append_left _ (List.mem_of_getElem? (i := 26) rfl)))
theorem wt_it : Cond.initialized Bundle.tN ∈ lw_tbl := List.mem_append_right _ (List.mem_append_left _ (List.mem_of_getElem? (i := 8) rfl))
theorem wt_s152 : Cond.stringRef RX6 152 "there is no snapshot" ∈ lw_tbl := List.mem_append_right _ (List.mem_append_right _ (List.mem_append_left _ (List.mem_of_getElem? (i := 38) rfl)))
theorem wt_s155 : Cond.stringRef RX6 155 "there is no saved state" ∈ lw_tbl := List.mem_append_right _ (List.mem_append_right _ (List.mem_append_left _ (List.mem_of_getElem? (i := 82) rfl)))
theorem wt_s61 : Cond.stringRef RX6 61 "the fine is not 1 to 9" ∈ lw_tbl := List.mem_append_right _ (List.mem_append_right _ (List.mem_append_left _ (List.mem_of_getElem? (i := 107) rfl)))
theorem wt_s66 : Cond.stringRef RX6 66 "a mask of rooms is not 0 to 63" ∈ lw_tbl := List.mem_append_right _ (List.mem_append_right _ (List.mem_append_left _ (List.mem_of_getElem? (i := 114) rfl)))
theorem wt_s68 : Cond.stringRef RX6 68 "a room is named twice, or none is named" ∈ lw_tbl := List.mem_append_right _ (List.mem_append_right _ (List.mem_append_left _ (List.mem_of_getElem? (i := 115) rfl)))
theorem wt_s75 : Cond.stringRef RX6 75 "there are 10 rules" ∈ lw_tbl := List.mem_append_right _ (List.mem_append_right _ (List.mem_append_left _ (List.mem_of_getElem? (i := 116) rfl)))
theorem wt_s306 : Cond.stringRef RX6 306 "there is no such rule" ∈ lw_tbl := List.mem_append_right _ (List.mem_append_right _ (List.mem_append_left _ (List.mem_of_getElem? (i := 151) rfl)))
theorem wt_s102 : Cond.stringRef RX6 102 "the days are not 0 to 30" ∈ lw_tbl := List.mem_append_right _ (List.mem_append_right _ (List.mem_append_left _ (List.mem_of_getElem? (i := 177) rfl)))
theorem wt_s309 : Cond.stringRef RX6 309 "there is no such room" ∈ lw_tbl := List.mem_append_right _ (List.mem_append_right _ (List.mem_append_left _ (List.mem_of_getElem? (i := 192) rfl)))
theorem wt_s115 : Cond.stringRef RX6 115 "the room is let, or a rule refuses the guest" ∈ lw_tbl := List.mem_append_right _ (List.mem_append_right _ (List.mem_append_left _ (List.mem_of_getElem? (i := 202) rfl)))
theorem wt_s121 : Cond.stringRef RX6 121 "the room is empty, or a rule refuses that the guest goes" ∈ lw_tbl := List.mem_append_right _ (List.mem_append_right _ (List.mem_append_left _ (List.mem_of_getElem? (i := 214) rfl)))
theorem wt_s311 : Cond.stringRef RX6 311 "the nights are not 1 to 30" ∈ lw_tbl := List.mem_append_right _ (List.mem_append_right _ (List.mem_append_left _ (List.mem_of_getElem? (i := 225) rfl)))
theorem wt_s172 : Cond.stringRef RX6 172 "the way is not 0 to 63" ∈ lw_tbl := List.mem_append_right _ (List.mem_append_right _ (List.mem_append_right _ (List.mem_append_left _ (List.mem_of_getElem? (i := 97) rfl))))
theorem wt_s313 : Cond.stringRef RX6 313 "there are no such rules" ∈ lw_tbl := List.mem_append_right _ (List.mem_append_right _ (List.mem_append_right _ (List.mem_append_right _ ((List.mem_of_getElem? (i := 9) rfl)))))
theorem wt_x0 : Cond.castable "java/lang/IllegalStateException" "java/lang/IllegalStateException" ∈ lw_tbl := List.mem_append_right _ (List.mem_append_left _ (List.mem_of_getElem? (i := 239) rfl))
theorem wt_x1 : Cond.declares ⟨"java/lang/RuntimeException", "<init>", "()V"⟩ ∈ lw_tbl := List.mem_append_right _ (List.mem_append_right _ (List.mem_append_left _ (List.mem_of_getElem? (i := 0) rfl)))
theorem wt_x2 : Cond.declares ⟨"java/lang/RuntimeException", "<init>", "(Ljava/lang/String;)V"⟩ ∈ lw_tbl := List.mem_append_right _ (List.mem_append_right _ (List.mem_append_left _ (List.mem_of_getElem? (i := 1) rfl)))
theorem wt_x3 : Cond.declares ⟨"java/lang/Exception", "<init>", "()V"⟩ ∈ lw_tbl := List.mem_append_right _ (List.mem_append_right _ (List.mem_append_left _ (List.mem_of_getElem? (i := 2) rfl)))
theorem wt_x4 : Cond.declares ⟨"java/lang/Exception", "<init>", "(Ljava/lang/String;)V"⟩ ∈ lw_tbl := List.mem_append_right _ (List.mem_append_right _ (List.mem_append_left _ (List.mem_of_getElem? (i := 3) rfl)))
theorem wt_x5 : Cond.declares ⟨"java/lang/Throwable", "<init>", "()V"⟩ ∈ lw_tbl := List.mem_append_right _ (List.mem_append_right _ (List.mem_append_left _ (List.mem_of_getElem? (i := 4) rfl)))
theorem wt_x6 : Cond.declares ⟨"java/lang/Throwable", "<init>", "(Ljava/lang/String;)V"⟩ ∈ lw_tbl := List.mem_append_right _ (List.mem_append_right _ (List.mem_append_left _ (List.mem_of_getElem? (i := 5) rfl)))
theorem wt_x7 : Cond.castable "java/lang/IllegalArgumentException" "java/lang/IllegalArgumentException" ∈ lw_tbl := List.mem_append_right _ (List.mem_append_right _ (List.mem_append_left _ (List.mem_of_getElem? (i := 100) rfl)))
theorem wt_x8 : Cond.castable "java/lang/IndexOutOfBoundsException" "java/lang/IndexOutOfBoundsException" ∈ lw_tbl := List.mem_append_right _ (List.mem_append_right _ (List.mem_append_left _ (List.mem_of_getElem? (i := 144) rfl)))
theorem wt_strs : ∀ q ∈ hq_strs, Cond.stringRef RX6 q.1 q.2 ∈ lw_tbl := by
  intro q hq
  simp only [hq_strs, List.mem_cons, List.not_mem_nil, or_false] at hq
  rcases hq with rfl | rfl | rfl | rfl | rfl | rfl | rfl | rfl | rfl | rfl | rfl | rfl | rfl | rfl
  · exact wt_s152
  · exact wt_s155
  · exact wt_s61
  · exact wt_s66
  · exact wt_s68
  · exact wt_s75
  · exact wt_s306
  · exact wt_s102
  · exact wt_s309
  · exact wt_s115
  · exact wt_s121
  · exact wt_s311
  · exact wt_s172
  · exact wt_s313
theorem hc_arr {U : State} {args : Array Value} {ty : FieldType} (hp : ty = .char ∨ ty = .int ∨ ty = .long ∨ ty = .boolean) (h : (Cond.arrayClass ty).before args U = true) : ∃ cA : ClassId, ArrOfT U cA ty ∧ va_RA U cA ty := by
  obtain ⟨cA, kA, comp, h1, h2, h3⟩ := Cond.arrayClass_spec h
  refine ⟨cA, fun N z => ⟨(fun k h => by cases h), kA, h2, comp, h3⟩, ?_⟩
  rcases hp with rfl | rfl | rfl | rfl <;> exact h1
theorem hc_arrq {U : State} {args : Array Value} {C : String} (h : (Cond.arrayOver (.object C)).before args U = true) : ∃ cA : ClassId, ArrOfT U cA (.object C) ∧ va_RA U cA (.object C) := by
  obtain ⟨comp, cA, kA, h1, h2, h3, h4, h5⟩ := Cond.arrayOver_spec h
  exact ⟨cA, fun N z => ⟨(fun k h => by cases h), kA, h3, comp, h4⟩, kA, comp, h3, h4, h1, h5⟩
theorem lw_entry {p : Program} {s : State} {m : MethodId} {meth : Method} {c : Code} {b L : Nat} {xs : Nat → Int32} (C0 : lw_At p s m meth c b L xs) : hq_NN s ∧ hc_N s ∧ hq_ZS s.heap.size s s.heap ∧ ∃ (D : va_G) (cy : Nat → ClassId), va_K D vwCl (hq_tys cy) s := by
  obtain ⟨hx, hb, hr, hml, hown, hts, hX, hbl, hlocks, hgv⟩ := id C0
  have hs := flat_of_before _ hgv
  have hws : ∀ w ∈ hq_ws, w.before #[Value.ref b] s = true := fun w hw => hts w (List.mem_filter.mp hw).1
  refine ⟨?_, ⟨va_Nw.of rfl (hts _ wt_n1), va_Nw.of rfl (hts _ wt_n2), va_AO.of (hts _ wt_o4), va_AO.of (hts _ wt_o0)⟩, ⟨?_, ?_, ?_, ?_⟩, ?_⟩
  · intro q hq
    simp only [hq_X3, List.mem_cons, List.not_mem_nil, or_false] at hq
    rcases hq with rfl | rfl | rfl | rfl | rfl | rfl <;> exact va_Nc.of (hs _ (by decide +kernel))
  · exact vx_Zqof (hts _ wt_l1) (hts _ wt_it) (hs _ (by decide +kernel)) (fun a ha h => by
      have h : s.heap.size ≤ a := h
      omega)
  · exact vx_Zqof (hts _ wt_l2) (hts _ wt_it) (hs _ (by decide +kernel)) (fun a ha h => by
      have h : s.heap.size ≤ a := h
      omega)
  · intro q hq
    have h1 := hts _ (wt_strs q hq)
    obtain ⟨c6, i6, hc6⟩ := u_known (C := RX6) (T := TX6) (N := 9) (n := 9) hws uX6 (hws _ wcI_X6)
    obtain ⟨k, cf, i, a, hk, hcf, hcp, -, hr9, hev⟩ := Cond.stringRef_spec hc6.2.1 h1
    exact ⟨a, vk_R.of h1 hev⟩
  · intro w hw
    refine va_Nw.of (hq_wx_ot w hw) (A := #[Value.ref b]) ?_
    simp only [hq_wx, List.mem_cons, List.not_mem_nil, or_false] at hw
    rcases hw with rfl | rfl | rfl | rfl | rfl | rfl | rfl | rfl | rfl
    · exact hts _ wt_x0
    · exact hts _ wt_x1
    · exact hts _ wt_x2
    · exact hts _ wt_x3
    · exact hts _ wt_x4
    · exact hts _ wt_x5
    · exact hts _ wt_x6
    · exact hts _ wt_x7
    · exact hts _ wt_x8
  · obtain ⟨k0, i0, h0⟩ := u_known (C := RX0) (T := TX0) (N := 7) (n := 7) hws uX0 (hws _ wcI_X0)
    obtain ⟨k1, i1, h1⟩ := u_known (C := RX1) (T := TX1) (N := 3) (n := 3) hws uX1 (hws _ wcI_X1)
    obtain ⟨k2, i2, h2⟩ := u_known (C := RX2) (T := TX2) (N := 7) (n := 7) hws uX2 (hws _ wcI_X2)
    obtain ⟨k3, i3, h3⟩ := u_known (C := RX3) (T := TX3) (N := 4) (n := 4) hws uX3 (hws _ wcI_X3)
    obtain ⟨k4, i4, h4⟩ := u_known (C := RX4) (T := TX4) (N := 7) (n := 7) hws uX4 (hws _ wcI_X4)
    obtain ⟨k5, i5, h5⟩ := u_known (C := RX5) (T := TX5) (N := 1) (n := 1) hws uX5 (hws _ wcI_X5)
    obtain ⟨k6, i6, h6⟩ := u_known (C := RX6) (T := TX6) (N := 9) (n := 9) hws uX6 (hws _ wcI_X6)
    obtain ⟨a0, q0⟩ := hc_arr (Or.inr (Or.inl rfl)) (hts _ wt_a_int)
    obtain ⟨a1, q1⟩ := hc_arr (Or.inr (Or.inl rfl)) (hts _ wt_a_int)
    obtain ⟨a2, q2⟩ := hc_arr (Or.inr (Or.inr (Or.inl rfl))) (hts _ wt_a_long)
    obtain ⟨a3, q3⟩ := hc_arr (Or.inr (Or.inl rfl)) (hts _ wt_a_int)
    obtain ⟨a4, q4⟩ := hc_arrq (hts _ wt_o0)
    obtain ⟨a5, q5⟩ := hc_arrq (hts _ wt_o4)
    refine ⟨(fun k => [k0, k1, k2, k3, k4, k5, k6].getD k k0, fun k => [i0, i1, i2, i3, i4, i5, i6].getD k i0), fun k => [a0, a1, a2, a3, a4, a5].getD k a0, fun k q hq => ?_, fun k q hq => ?_⟩
    · match k, hq with
      | 0, hq => cases hq; exact h0
      | 1, hq => cases hq; exact h1
      | 2, hq => cases hq; exact h2
      | 3, hq => cases hq; exact h3
      | 4, hq => cases hq; exact h4
      | 5, hq => cases hq; exact h5
      | 6, hq => cases hq; exact h6
      | k + 7, hq => cases hq
    · match k, hq with
      | 0, hq => cases hq; exact q0
      | 1, hq => cases hq; exact q1
      | 2, hq => cases hq; exact q2
      | 3, hq => cases hq; exact q3
      | 4, hq => cases hq; exact q4
      | 5, hq => cases hq; exact q5
      | k + 6, hq => cases hq
