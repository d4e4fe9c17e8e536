-- ===== the first world: constructors' contracts =====
def hc_RM (d mc ms : Nat) : Room := { frames := 2 * d + 8, cells := mc, slots := ms, locals := 80 * d + 120 }
def hc_Pc (b : Nat) (cy : Nat → ClassId) (D : va_G) (a : Nat) (ws : List hc_E) : Array Value → State → Prop := va_Pc [.ref (b + a)] (fun U => va_P D vwCl (hc_w b cy ws) U.heap ∧ va_K D vwCl (hq_tys cy) U ∧ hc_N U ∧ U.heap.size ≤ b + ws.length ∧ b ≤ U.heap.size)
def hc_Qc (b : Nat) (cy : Nat → ClassId) (D : va_G) (ws : List hc_E) : Array Value → State → Outcome → State → Prop := fun _ st oc t => oc = .returned none ∧ va_P D vwCl (hc_w b cy ws) t.heap ∧ va_F (hq_AA b) st t
/-- the contract of a constructor of the cell at a: from ws to ws' -/
def hc_Met (d : Nat) (M : hq_M) (a : Nat) (ws ws' : List hc_E) (mc ms : Nat) : Prop := (ws'.length = ws.length + mc ∧ hc_sz ws' = hc_sz ws + ms) ∧ ∀ (l : Launch) (D : va_G) (cy : Nat → ClassId) (b : Nat), Met l M.1 (hq_wm M) (hc_RM d mc ms) (hc_Pc b cy D a ws) (hc_Qc b cy D ws') mc ms (hq_AA b)
theorem hc_N_moved {u U : State} (hvm : u.vm = U.vm) (h : hc_N u) : hc_N U := ⟨va_Nw.same rfl hvm h.1, va_Nw.same rfl hvm h.2.1, va_AO.moved (by rw [hvm]; exact Vm.Alike.refl U.vm) h.2.2.1, va_AO.moved (by rw [hvm]; exact Vm.Alike.refl U.vm) h.2.2.2⟩
theorem hc_N_warm {s U : State} (hW : s.WarmedH U.vm) (h : hc_N s) : hc_N U := ⟨va_Nw.warmM hW h.1, va_Nw.warmM hW h.2.1, va_AO.moved hW.alike h.2.2.1, va_AO.moved hW.alike h.2.2.2⟩
/-- what the tables say of a constructor without arguments -/
def hc_mi (M : hq_M) : Prop := (M.1.cls ≠ "java/lang/invoke/MethodHandle" ∧ M.1.cls ≠ "java/lang/invoke/VarHandle" ∧ (parseMethodDescriptor M.1.desc).map (fun d => d.parameters.length) = some 0) ∧ Cond.code M.1 M.2.1 M.2.2.1 none ∈ hq_ws ∧ Cond.initialized M.1.cls ∈ hq_ws ∧ M.2.2.1 ≤ 40 ∧ plainName M.1.cls = true ∧ Cond.instanceMethod M.1 ∈ hq_ws ∧ M.1.name = "<init>" ∧ M.2.2.2 = none
section HCC
variable {p : Program} {l : Launch} {e : Env} {R : Room} {s : State} {m : MethodId} {args : Array Value} {below : List Frame} {meth : Method} {c : Code} {H : Heap} {locs : List Loc} {cells slots : Nat} {Q : State → Prop}
variable {D : va_G} {cy : Nat → ClassId} {b n0 S0 NC NS d : Nat} {M : hq_M} {ws : List hc_E} {pc : Nat} {la : Array Slot} {rest : List Value}
theorem hc_blind {a : Nat} : FrameBlind (hc_Pc b cy D a ws) := by
  intro a' U g mk q
  obtain ⟨e, hP, hK, hN, h1, h2⟩ := q
  exact ⟨e, hP, va_K.moved (u := U) (U := U.calling g mk a') (Vm.Alike.refl U.vm) hK, hc_N_moved (u := U) (U := U.calling g mk a') rfl hN, h1, h2⟩
theorem hc_good {M' : hq_M} (hm : hc_mi M') : GoodIn hq_ws (hq_wm M') := fun w hw => by
  have hin : w ∈ hq_ws := by
    unfold hq_wm at hw
    rw [hm.2.2.2.2.2.2.2] at hw
    rcases List.mem_cons.mp hw with rfl | hw
    · exact hm.2.1
    · exact hw
  exact ⟨hin, hq_gw hin⟩
theorem hc_after {ws' : List hc_E} {mc ms : Nat} {av : Array Value} {st0 : List Value} (P : hc_P D cy b n0 S0 s H locs cells slots ws) (hlen : ws'.length = ws.length + mc ∧ hc_sz ws' = hc_sz ws + ms) (run : va_Run p l e R s m args below meth c H locs cells slots mc ms (F0 m pc la st0) rest (hc_Qc b cy D ws' av) (hq_AA b))
    (kk : ∀ (H1 : Heap) (locs1 : List Loc), hc_P D cy b n0 S0 s H1 locs1 (cells + mc) (slots + ms) ws' → W p l e R s m args below meth c H1 locs1 (cells + mc) (slots + ms) Q (F0 m (pc + 3) la rest)) : W p l e R s m args below meth c H locs cells slots Q (F0 m pc la st0) := by
  intro T hT X
  obtain ⟨v, st₀, t, T', LL, h0, X', hLL, e1, e2, ⟨hv, hP1, hF⟩, stp⟩ := run T hT X
  cases hv
  obtain ⟨P1, P2, P3, P4⟩ := P
  have hS1 : va_S (hq_AA b) s.heap T'.heap (locs ++ LL) := by
    obtain ⟨hz, hkk⟩ := hF
    rw [h0] at hz hkk
    refine ⟨Nat.le_trans P2.1 (by rw [e1]; exact hz), fun q h1 h2 => ?_, fun q hq => ?_⟩
    · rw [e1, hkk q (Nat.lt_of_lt_of_le h1 P2.1) h2]
      exact P2.2.1 q h1 h2
    · rcases List.mem_append.mp hq with h | h
      · exact P2.2.2 q h
      · exact hLL q h
  obtain ⟨t2, a1, b1⟩ := kk T'.heap (locs ++ LL) ⟨by rw [e1]; exact hP1, hS1, by omega, by omega⟩ T' rfl X'
  exact ⟨t2, stp t2 a1, b1⟩
theorem hc_call {M' : hq_M} {a index mc ms : Nat} {ws' : List hc_E} (X : hc_X M (d + 1) D cy b n0 NC NS p R s m args c) (P : hc_P D cy b n0 S0 s H locs cells slots ws) (hm : hc_mi M') (hmet : hc_Met (d + 1) M' a ws ws' mc ms) (hw : Cond.methodLink M.1.cls index M'.1 ∈ hq_ws) (hla : la.size = M.2.2.1) (hrest : (rest.map fun v => v.category).sum ≤ 8) (r1 : ws'.length ≤ n0 + NC) (r2 : hc_sz ws' ≤ S0 + NS) (hdg : decode M.2.1 pc = .ok (.invokespecial index, 3))
    (kk : ∀ (H1 : Heap) (locs1 : List Loc), hc_P D cy b n0 S0 s H1 locs1 (cells + mc) (slots + ms) ws' → W p l e R s m args below meth c H1 locs1 (cells + mc) (slots + ms) Q (F0 m (pc + 3) la rest)) : W p l e R s m args below meth c H locs cells slots Q (F0 m pc la (.ref (b + a) :: rest)) := by
  obtain ⟨x1, x2, x3, x4, x5, x6, x7, x8, x9, x10, x11, x12, x13⟩ := X
  have P' := P
  obtain ⟨P1, P2, P3, P4⟩ := P
  obtain ⟨hlen, hmet⟩ := hmet
  obtain ⟨hmd, hcode, hini, hml, hpl, hinst, hnm, hret⟩ := id hm
  refine hw_size (fun hz => ?_)
  refine hc_after P' hlen (va_runI (As := []) (b := b + a) (rest := rest) (cc := M.2.1) (nL := M.2.2.1) (Ts := hq_ws) (own := M.1.cls) ⟨x1, x2, x3, x4, x5⟩ (hmet l D cy b) (cwI 0 x5 (hc_good hm) (by show hq_wm M' = _; unfold hq_wm; rw [hret]) rfl rfl (x5 _ hini) (x5 _ hw) (x5 _ hinst) hnm hmd ⟨?_, ?_⟩) ⟨hc_blind, fun U hU hW => ⟨rfl, by rw [hU]; exact P1, va_K.moved hW.alike x6, hc_N_warm hW x7, ?_, ?_⟩⟩ rfl rfl hla rfl ?_ hdg ⟨?_, ?_⟩) kk
  · show 2 * (d + 1) + 8 + 1 ≤ R.frames
    omega
  · show 8 + (M'.2.2.1 + 11) + (80 * (d + 1) + 120) ≤ R.locals
    omega
  · rw [hU]
    omega
  · rw [hU]
    exact Nat.le_trans x9 P2.1
  · show 2 * 0 + _ ≤ 8
    omega
  · omega
  · omega
theorem hc_callN {M' : hq_M} {a index mc ms : Nat} {host : String} {ws' : List hc_E} (X : hc_X M (d + 1) D cy b n0 NC NS p R s m args c) (P : hc_P D cy b n0 S0 s H locs cells slots ws) (hm : hc_mi M') (hmet : hc_Met (d + 1) M' a ws ws' mc ms) (hw : va_Nw (.methodLinkNest M.1.cls index M'.1 host) s) (hla : la.size = M.2.2.1) (hrest : (rest.map fun v => v.category).sum ≤ 8) (r1 : ws'.length ≤ n0 + NC) (r2 : hc_sz ws' ≤ S0 + NS) (hdg : decode M.2.1 pc = .ok (.invokespecial index, 3))
    (kk : ∀ (H1 : Heap) (locs1 : List Loc), hc_P D cy b n0 S0 s H1 locs1 (cells + mc) (slots + ms) ws' → W p l e R s m args below meth c H1 locs1 (cells + mc) (slots + ms) Q (F0 m (pc + 3) la rest)) : W p l e R s m args below meth c H locs cells slots Q (F0 m pc la (.ref (b + a) :: rest)) := by
  obtain ⟨x1, x2, x3, x4, x5, x6, x7, x8, x9, x10, x11, x12, x13⟩ := X
  have P' := P
  obtain ⟨P1, P2, P3, P4⟩ := P
  obtain ⟨hlen, hmet⟩ := hmet
  obtain ⟨hmd, hcode, hini, hml, hpl, hinst, hnm, hret⟩ := id hm
  refine hw_size (fun hz => ?_)
  refine hc_after P' hlen (va_runIN (As := []) (b := b + a) (rest := rest) (cc := M.2.1) (nL := M.2.2.1) (Ts := hq_ws) (own := M.1.cls) (host := host) ⟨x1, x2, x3, x4, x5⟩ (hmet l D cy b) ⟨va_cnB 0 x5 (hc_good hm) (by show hq_wm M' = _; unfold hq_wm; rw [hret]) rfl rfl hw (x5 _ hini) hmd ⟨?_, ?_⟩, hnm, x5 _ hinst⟩ ⟨hc_blind, fun U hU hW => ⟨rfl, by rw [hU]; exact P1, va_K.moved hW.alike x6, hc_N_warm hW x7, ?_, ?_⟩⟩ rfl rfl hla rfl ?_ hdg ⟨?_, ?_⟩) kk
  · show 2 * (d + 1) + 8 + 1 ≤ R.frames
    omega
  · show 8 + (M'.2.2.1 + 11) + (80 * (d + 1) + 120) ≤ R.locals
    omega
  · rw [hU]
    omega
  · rw [hU]
    exact Nat.le_trans x9 P2.1
  · show 2 * 0 + _ ≤ 8
    omega
  · omega
  · omega
/-- a constructor's end -/
theorem hc_ret (X : hc_X M d D cy b n0 NC NS p R s m args c) (P : hc_P D cy b n0 S0 s H locs cells slots ws) (h1 : ws.length = n0 + NC) (h2 : hc_sz ws = S0 + NS) (hret : meth.sig.returnType = none) (hlocks : meth.locks = false) (hdg : decode M.2.1 pc = .ok (.return_, 1)) : W p l e R s m args below meth c H locs cells slots (MQ below (hc_Qc b cy D ws) args s NC NS (hq_AA b)) (F0 m pc la []) := by
  obtain ⟨x1, x2, x3, x4, x5, x6, x7, x8, x9, x10, x11, x12, x13⟩ := X
  obtain ⟨P1, P2, P3, P4⟩ := P
  have ec : cells = NC := by omega
  have es : slots = NS := by omega
  subst ec
  subst es
  exact W.vret x1 x2 hret (fun t ht _ => ⟨rfl, by rw [ht]; exact P1, P2.F ht⟩) P2.2.2 hdg hlocks
end HCC
/-- a constructor from its body -/
theorem hc_intro {M : hq_M} {d a mc ms : Nat} {ws ws' : List hc_E} (hm : hc_mi M) (hlen : ws'.length = ws.length + mc ∧ hc_sz ws' = hc_sz ws + ms) (hL : ∀ b : Nat, (lg_sl [Value.ref (b + a)]).length ≤ M.2.2.1)
    (T0 : ∀ {p : Program} {l : Launch} {e : Env} {R : Room} {s : State} {m : MethodId} {args : Array Value} {below : List Frame} {meth : Method} {c : Code} (D : va_G) (cy : Nat → ClassId) (b : Nat) (la : Array Slot), hc_X M d D cy b ws.length mc ms p R s m args c → meth.sig.returnType = none → meth.locks = false → meth.name = "<init>" → hc_P D cy b ws.length (hc_sz ws) s s.heap [] 0 0 ws → lv_has la M.2.2.1 [(0, .ref (b + a))] →
      W p l e R s m args below meth c s.heap [] 0 0 (MQ below (hc_Qc b cy D ws') args s mc ms (hq_AA b)) (F0 m 0 la [])) : hc_Met (d + 1) M a ws ws' mc ms := by
  refine ⟨hlen, fun l D cy b => ?_⟩
  obtain ⟨hmd, hcode, hini, hml9, hpl, hinst, hnm, hret⟩ := id hm
  refine Met.ofW (cc := M.2.1) (maxL := M.2.2.1) (ret := none) hpl (by unfold hq_wm; rw [hret]) ?_
  intro p e s m args below meth c s₁ B hml hv
  obtain ⟨rfl, hP, hK, hN, h1, h2⟩ := hv
  have hts := atoms_spec (ws := hq_wm M) B.pre
  have hl := lv_entry ([.ref (b + a)]) (n := M.2.2.1) (hL b)
  rw [lg_entry_eq]
  generalize (lg_sl ([.ref (b + a)]) ++ List.replicate (M.2.2.1 - (lg_sl ([.ref (b + a)])).length) Slot.unset).toArray = la at hl ⊢
  refine T0 D cy b la ⟨B.exec, B.bytes, hml, findClass_of_methodNamed B.named, fun w hw => hts w (List.mem_cons_of_mem _ hw), hK, hN, h1, h2, Nat.le_refl _, Nat.le_refl _, ?_, ?_⟩ B.returns B.notSynchronized ((name_of_methodNamed B.named B.method).1.trans hnm) ⟨hP, va_S.rf, Nat.zero_add _, Nat.zero_add _⟩ hl
  · show 2 * d + 10 ≤ 2 * (d + 1) + 8
    omega
  · show 80 * d + 200 ≤ 80 * (d + 1) + 120
    omega
