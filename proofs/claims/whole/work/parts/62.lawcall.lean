-- ===== the law's calls that catch =====
def hq_X3 : List (String × String) := [(hz_ISE, hz_IAE), (hz_IOB, hz_IAE), (hz_IAE, hz_ISE), (hz_IOB, hz_ISE), (hz_IAE, hz_IOB), (hz_ISE, hz_IOB)]
def hq_NN (U : State) : Prop := ∀ q ∈ hq_X3, va_Nc q.1 q.2 U
abbrev hq_HH : Type := List (Nat × Nat × Nat × Nat)
def hq_RK (d : Nat) : Room := { frames := 2 * d + 8, cells := 1, slots := 6, locals := 80 * d + 120 }
def hq_wk (M : hq_M) (hh : hq_HH) : List Cond := .codeWith M.1 M.2.1 M.2.2.1 M.2.2.2 hh :: hq_ws
def hq_PK (b : Nat) (cy : Nat → ClassId) (D : va_G) (args : List hq_V) (h : hq_H) : Array Value → State → Prop := va_Pc (args.map (hq_cv b)) (fun U => va_P D vwCl (hq_w b cy h) U.heap ∧ va_K D vwCl (hq_tys cy) U ∧ hq_ZS b U U.heap ∧ hq_NN U)
/-- the contract of a method that catches: it may have made one cell -/
def hq_MetK (d : Nat) (M : hq_M) (hh : hq_HH) (args : List hq_V) (h : hq_H) (res : hq_R) (hr : hq_H) : Prop := hq_okS args → hq_okR res ∧ (∀ (l : Launch) (D : va_G) (cy : Nat → ClassId) (b : Nat), l.stackTraces = false →
  Met l M.1 (hq_wk M hh) (hq_RK d) (hq_PK b cy D args h) (hq_QC b cy D hr res) 1 6 (hq_AA b))
def hq_Gk (M : hq_M) (hh : hq_HH) (res : hq_R) (hr : hq_H) (n : Nat) : hq_G := fun p l e R s m args below meth c D cy b cells slots Q =>
  meth.sig.returnType = M.2.2.2 ∧ meth.locks = false ∧ c.exceptionTable.toList = tableOf hh ∧ hq_NN s ∧ cells ≤ n ∧ slots ≤ 6 * n ∧ 1 ≤ R.cells ∧ 6 ≤ R.slots ∧ Q = MQ below (hq_QC b cy D hr res) args s 1 6 (hq_AA b)
theorem hq_ofWk {l : Launch} {y : MethodName} {ws ws' : List Cond} {rm : Room} {Pc : Array Value → State → Prop} {Qc : Array Value → State → Outcome → State → Prop} {mc ms : Nat} {free : Addr → Prop} {cc : ByteArray} {maxL : Nat} {ret : Option FieldType} {hh : hq_HH}
    (hy : plainName y.cls = true) (hw : ws = Cond.codeWith y cc maxL ret hh :: ws')
    (body : ∀ p e s m args below meth c s₁, BodyLoose p l y (headSpec ws rm) cc maxL ret e s m args below meth c s₁ → c.maxLocals = maxL → c.exceptionTable.toList = tableOf hh → Pc args s →
      W p l e (headSpec ws rm).room s m args below meth c s.heap [] 0 0 (MQ below Qc args s mc ms free) (entryFrame m args maxL)) : Met l y ws rm Pc Qc mc ms free := by
  refine MetFree.of_bodyS (code := cc) (maxLocals := maxL) (ret := ret) hy ?_ ?_
  · intro args s m h hn
    obtain ⟨m9, meth, c, h0, h1, h2, h3, h4, -, h5, h6, -⟩ := Cond.codeWith_spec (atoms_spec (ws := ws) h _ (by rw [hw]; exact List.mem_cons_self))
    cases Option.some.inj (h0.symm.trans hn)
    exact ⟨meth, c, h1, h2, h3, h4, h5, h6⟩
  · intro p e s m args below meth c s₁ B hml hP _
    have hh0 : s₁.heap = s.heap := by rw [B.state]; rfl
    have ht := vx_table (x := y) B (atoms_spec (ws := ws) B.pre _ (by rw [hw]; exact List.mem_cons_self))
    obtain ⟨t, a1, o, b1, b2, b3⟩ := body p e s m args below meth c s₁ B hml ht hP s₁ hh0 (Stand.of_body B)
    exact ⟨t, o, a1, b1, b2, b3⟩
section HK
variable {M : hq_M} {hh : hq_HH} {d pc : Nat} {res : hq_R} {hr : hq_H}
theorem hq_introK {as : List hq_V} {ls : hq_L} {h : hq_H} (hy : plainName M.1.cls = true) (hls : ls = hq_en as M.2.2.1) (hlen : ∀ b, (lg_sl (as.map (hq_cv b))).length ≤ M.2.2.1) (hres : hq_okS as → hq_okR res) (T0 : hq_T (hq_Gk M hh res hr 0) M d 0 ls [] h) : hq_MetK (d + 1) M hh as h res hr := by
  refine fun hok => ⟨hres hok, fun l D cy b hst => ?_⟩
  refine hq_ofWk (cc := M.2.1) (maxL := M.2.2.1) (ret := M.2.2.2) (hh := hh) hy rfl ?_
  intro p e s m args below meth c s₁ B hml hex hPc
  obtain ⟨rfl, hP, hK, hZ, hN⟩ := hPc
  have hts := atoms_spec (ws := hq_wk M hh) B.pre
  have hl := lv_entry (as.map (hq_cv b)) (n := M.2.2.1) (hlen b)
  rw [lg_entry_eq]
  generalize (lg_sl (as.map (hq_cv b)) ++ List.replicate (M.2.2.1 - (lg_sl (as.map (hq_cv b))).length) Slot.unset).toArray = la at hl ⊢
  subst hls
  refine T0 (R := (headSpec (hq_wk M hh) (hq_RK (d + 1))).room) D cy b s.heap [] la 0 0 _ ⟨B.exec, B.bytes, hml, findClass_of_methodNamed B.named, fun w hw => hts w (List.mem_cons_of_mem _ hw), hK, hZ, hst, ?_, ?_, Nat.zero_le _, Nat.zero_le _⟩ ⟨B.returns, B.notSynchronized, hex, hN, Nat.le_refl _, Nat.le_refl _, Nat.le_refl _, Nat.le_refl _, rfl⟩ hP va_S.rf ⟨hl.1, hl.2.1, fun k v hk => ?_⟩ trivial (fun k v hk => ?_)
  · show 2 * d + 10 ≤ 2 * (d + 1) + 8
    omega
  · show 80 * d + 200 ≤ 80 * (d + 1) + 120
    omega
  · have h1 := (hq_e0_in b as 0 k v (hq_en_at hk)).1
    rw [Nat.zero_add] at h1
    exact hl.2.2 _ h1
  · exact hq_okS_in hok (hq_e0_in b as 0 k v (hq_en_at hk)).2
theorem hs_iretK {n : Nat} (hn : n ≤ 1) (hd : decode M.2.1 pc = .ok (.ireturn, 1)) (ht : M.2.2.2 = some .int) : hq_S (hq_Gk M hh res hr n) M d pc (hk_iret res hr) := by
  intro ls st h hw
  unfold hk_iret at hw
  split at hw
  next x =>
    obtain ⟨rfl, rfl⟩ := hw
    intro p l e R s m args below meth c D cy b H locs la cells slots Q C g hP hS hL hst hls
    obtain ⟨g1, g2, -, -, g3, g4, -, -, rfl⟩ := g
    exact W.widen (k := 1) (n := 6) (by omega) (by omega) (W.iret C.1 C.2.1 (g1.trans ht) (hq_end (p := p) (l := l) (e := e) (R := R) (m := m) (below := below) (meth := meth) (c := c) (r := some (.inl (.int x))) hP hS) hS.2.2 hd g2)
  next => exact hw.elim
/-- the row of the table that catches E at pc -/
def hq_cat (M : hq_M) (hh : hq_HH) (pc : Nat) (E : String) (hp : Nat) : Prop := ∃ (pre : List ExceptionTableEntry) (x : ExceptionTableEntry) (suf : List ExceptionTableEntry) (name : String), tableOf hh = pre ++ x :: suf ∧ (∀ z ∈ pre, z.catchType ≠ 0 ∧ ∃ nm : String, Cond.classLink M.1.cls z.catchType nm ∈ hq_ws ∧ (E, nm) ∈ hq_X3) ∧ covers x pc = true ∧ x.catchType ≠ 0 ∧ x.handlerPc = hp ∧ Cond.classLink M.1.cls x.catchType name ∈ hq_ws ∧ Cond.castable E name ∈ hq_wx
def hk_tc (n kind d : Nat) (M' : hq_M) (E1 E2 : String) (K K1 K2 : hq_C) : hq_C := fun ls st h => ∃ (As : List hq_V) (i : Nat) (r : List hq_V), As.length = n ∧ st = As.reverse ++ .inr (kind, i) :: r ∧ hq_cs r ≤ 8 ∧ ∃ (res : hq_R) (h1 : hq_H), hq_Met d M' (.inr (kind, i) :: As) h res h1 ∧ (match res with
  | .inl (some v) => K ls (v :: r) h1
  | .inl none => False
  | .inr E => (E = E1 ∧ ∀ q : Nat, K1 ls [.inl (.ref q)] h1) ∨ (E = E2 ∧ ∀ q : Nat, K2 ls [.inl (.ref q)] h1))
theorem hq_okS_app : ∀ {a c : List hq_V}, hq_okS (a ++ c) → hq_okS a ∧ hq_okS c
  | [], _, h => ⟨trivial, h⟩
  | _ :: _, _, h => ⟨⟨h.1, (hq_okS_app h.2).1⟩, (hq_okS_app h.2).2⟩
theorem hq_okS_of : ∀ {a : List hq_V}, (∀ v ∈ a, hq_ok v) → hq_okS a
  | [], _ => trivial
  | _ :: _, h => ⟨h _ List.mem_cons_self, hq_okS_of fun v hv => h v (List.mem_cons_of_mem _ hv)⟩
theorem hs_tc {M' : hq_M} {n idx kind ci N : Nat} {T : u_T} {E1 E2 : String} {K K1 K2 : hq_C} {p1 p2 : Nat} (hd : decode M.2.1 pc = .ok (.invokevirtual idx, 3)) (hm : hq_mv M' n) (hw : Cond.methodLink M.1.cls idx M'.1 ∈ hq_ws) (hc : vwCl[ci]? = some (M'.1.cls, T, N)) (ho : hq_os kind = some (ci, N))
    (c1 : hq_cat M hh pc E1 p1) (c2 : hq_cat M hh pc E2 p2) (k : hq_S (hq_Gk M hh res hr 0) M d (pc + 3) K) (k1 : hq_S (hq_Gk M hh res hr 1) M d p1 K1) (k2 : hq_S (hq_Gk M hh res hr 1) M d p2 K2) : hq_S (hq_Gk M hh res hr 0) M d pc (hk_tc n kind d M' E1 E2 K K1 K2) := by
  intro ls st h hk
  obtain ⟨As, i, r, hn, rfl, hrm, res', h1, hmet, hk⟩ := hk
  intro p l e R s m args below meth c D cy b H locs la cells slots Q C g hP hS hL hst hls
  obtain ⟨o1, o2⟩ := hq_okS_app hst
  have oA : hq_okS As := hq_okS_of fun v hv => hq_okS_in o1 (List.mem_reverse.mpr hv)
  have hok : hq_okS (.inr (kind, i) :: As) := ⟨o2.1, oA⟩
  obtain ⟨g1, g2, g3, gN, gc, gs, g4, g5, rfl⟩ := g
  have room : cells + hq_mc res' ≤ R.cells ∧ slots + hq_ms res' ≤ R.slots := by
    cases res' with
    | inl v => exact ⟨C.2.2.2.2.2.2.2.2.2.2.1, C.2.2.2.2.2.2.2.2.2.2.2⟩
    | inr E => exact ⟨by show cells + 1 ≤ _; omega, by show slots + 6 ≤ _; omega⟩
  have run := hq_runV (e := e) (below := below) (meth := meth) (As := As) (rest := r) (i := i) C hP hS hL.1 hm hw hc ho hok hmet hn hrm hd room (st := (As.reverse ++ .inr (kind, i) :: r).map (hq_cv b)) (by rw [List.map_append, List.map_reverse]; rfl)
  have caught : ∀ (E : String) (hp : Nat) (KE : hq_C), res' = .inr E → hq_cat M hh pc E hp → hq_S (hq_Gk M hh res hr 1) M d hp KE → (∀ q : Nat, KE ls [.inl (.ref q)] h1) → W p l e R s m args below meth c H locs cells slots (MQ below (hq_QC b cy D hr res) args s 1 6 (hq_AA b)) (F0 m pc la ((As.reverse ++ .inr (kind, i) :: r).map (hq_cv b))) := by
    intro E hp KE hE cat kE hkE
    subst hE
    obtain ⟨pre, x, suf, name, s1, s2, s3, s4, s5, s6, s7⟩ := cat
    refine hq_after run hS (fun r9 H1 locs1 e9 hP1 hS1 => by cases e9) (fun E' q ce H1 locs1 e9 hP1 hS1 hce hcv hcl => ?_)
    cases e9
    refine vx_catch C.2.2.2.1 pre x suf (g3.trans s1) (fun z hz => Or.inr ?_) s3 s4 (C.2.2.2.2.1 _ s6) (va_Nw.use (A := args) (by exact hq_wx_ot _ s7) (C.2.2.2.2.2.2.1.2.2.2 _ s7)) hce hcv hcl ?_
    · obtain ⟨z1, nm, z2, z3⟩ := s2 z hz
      exact ⟨z1, nm, C.2.2.2.2.1 _ z2, gN _ z3⟩
    · rw [s5]
      refine kE _ _ _ (hkE q) D cy b H1 locs1 la (cells + 1) (slots + 6) _ ⟨C.1, C.2.1, C.2.2.1, C.2.2.2.1, C.2.2.2.2.1, C.2.2.2.2.2.1, C.2.2.2.2.2.2.1, C.2.2.2.2.2.2.2.1, C.2.2.2.2.2.2.2.2.1, C.2.2.2.2.2.2.2.2.2.1, room.1, room.2⟩ ⟨g1, g2, g3, gN, by omega, by omega, g4, g5, rfl⟩ hP1 hS1 hL ⟨trivial, trivial⟩ hls
  cases res' with
  | inl v =>
    cases v with
    | none => exact hk.elim
    | some v =>
      refine hq_after run hS (fun r9 H1 locs1 e9 hP1 hS1 => ?_) (fun E q ce H1 locs1 e9 _ _ _ _ _ => by cases e9)
      cases e9
      exact k _ _ _ hk D cy b H1 locs1 la cells slots _ C ⟨g1, g2, g3, gN, gc, gs, g4, g5, rfl⟩ hP1 hS1 hL ⟨(hmet hok).1, o2.2⟩ hls
  | inr E =>
    rcases hk with ⟨e1, hk⟩ | ⟨e2, hk⟩
    · subst e1
      exact caught E p1 K1 rfl c1 k1 hk
    · subst e2
      exact caught E p2 K2 rfl c2 k2 hk
end HK
