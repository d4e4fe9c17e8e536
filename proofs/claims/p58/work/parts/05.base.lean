abbrev hq_V : Type := Value ⊕ (Nat × Nat)
abbrev hq_H : Type := (Nat → Nat → Nat → Int32) × (Nat → Nat → Nat → Int64)
abbrev hq_L : Type := List (Option hq_V)
abbrev hq_C : Type := hq_L → List hq_V → hq_H → Prop
abbrev hq_R : Type := Option hq_V ⊕ String
/-- a method: its name, its code, its locals, its answer's type -/
abbrev hq_M : Type := MethodName × ByteArray × Nat × Option FieldType
def hq_hof (i : Nat) : Nat := if i < 2 then 1 + 13 * i else 3 + 13 * i
/-- where a cell lies behind the base: kind and number -/
def hq_off (k i : Nat) : Nat := match k with
  | 0 => hq_hof i
  | 1 => hq_hof (i / 11) + 2 + i % 11
  | 2 => hq_hof i + 1
  | 3 => 0
  | 4 => 27
  | 5 => 28
  | k + 6 => 120 + k
def hq_cnt (k : Nat) : Nat := match k with
  | 0 => 9
  | 1 => 99
  | 2 => 9
  | k + 3 => if k < 10 then 1 else 0
def hq_knL : List (Nat × Nat) := [(3, 0), (0, 0), (2, 0), (1, 0), (1, 1), (1, 2), (1, 3), (1, 4), (1, 5), (1, 6), (1, 7), (1, 8), (1, 9), (1, 10), (0, 1), (2, 1), (1, 11), (1, 12), (1, 13), (1, 14), (1, 15), (1, 16), (1, 17), (1, 18), (1, 19), (1, 20), (1, 21), (4, 0), (5, 0), (0, 2), (2, 2), (1, 22), (1, 23), (1, 24), (1, 25), (1, 26), (1, 27), (1, 28), (1, 29), (1, 30), (1, 31), (1, 32), (0, 3), (2, 3), (1, 33), (1, 34), (1, 35), (1, 36), (1, 37), (1, 38), (1, 39), (1, 40), (1, 41), (1, 42), (1, 43), (0, 4), (2, 4), (1, 44), (1, 45), (1, 46), (1, 47), (1, 48), (1, 49), (1, 50), (1, 51), (1, 52), (1, 53), (1, 54), (0, 5), (2, 5), (1, 55), (1, 56), (1, 57), (1, 58), (1, 59), (1, 60), (1, 61), (1, 62), (1, 63), (1, 64), (1, 65), (0, 6), (2, 6), (1, 66), (1, 67), (1, 68), (1, 69), (1, 70), (1, 71), (1, 72), (1, 73), (1, 74), (1, 75), (1, 76), (0, 7), (2, 7), (1, 77), (1, 78), (1, 79), (1, 80), (1, 81), (1, 82), (1, 83), (1, 84), (1, 85), (1, 86), (1, 87), (0, 8), (2, 8), (1, 88), (1, 89), (1, 90), (1, 91), (1, 92), (1, 93), (1, 94), (1, 95), (1, 96), (1, 97), (1, 98), (6, 0), (7, 0), (8, 0), (9, 0), (10, 0), (11, 0), (12, 0)]
def hq_kn (i : Nat) : Nat × Nat := hq_knL.getD i (0, 0)
def hq_cv (b : Nat) (v : hq_V) : Value := match v with
  | .inl x => x
  | .inr q => .ref (b + hq_off q.1 q.2)
/-- what the cells' references are, once made -/
def hq_HR (k i s : Nat) : Nat × Nat := match k with
  | 0 => match s with
    | 0 => (2, i)
    | _ => (1, 11 * i + 10)
  | 2 => (1, 11 * i + s)
  | 3 => match s with
    | 0 => (0, 0)
    | 1 => (0, 1)
    | 3 => (4, 0)
    | 4 => (6, 0)
    | 6 => (7, 0)
    | 7 => (8, 0)
    | _ => (11, 0)
  | 4 => match s with
    | 0 => (5, 0)
    | _ => (0, 8)
  | 5 => (0, 2 + s)
  | 8 => match s with
    | 0 => (9, 0)
    | _ => (10, 0)
  | 11 => (12, 0)
  | _ => (0, 0)
/-- a field's type: 0 a number of 32 bits, 1 one of 64, 2 a reference -/
def hq_ft (k s : Nat) : Nat := match k with
  | 0 => match s with
    | 0 => 2
    | 1 => 2
    | _ => 0
  | 1 => match s with
    | 6 => 1
    | _ => 0
  | 3 => match s with
    | 2 => 0
    | 5 => 0
    | _ => 2
  | 4 => match s with
    | 0 => 2
    | 1 => 2
    | _ => 0
  | 8 => match s with
    | 0 => 2
    | 1 => 2
    | _ => 0
  | 11 => 2
  | 13 => match s with
    | 0 => 2
    | 4 => 2
    | 11 => 2
    | 12 => 2
    | 13 => 2
    | 14 => 2
    | _ => 0
  | _ => 0
def hq_fv (h : hq_H) (k i s : Nat) : hq_V := match hq_ft k s with
  | 0 => .inl (.int (h.1 k i s))
  | 1 => .inl (.long (h.2 k i s))
  | _ => .inr (hq_HR k i s)
/-- kinds that are objects: class in vwCl, fields -/
def hq_os (k : Nat) : Option (Nat × Nat) := match k with
  | 0 => some (0, 7)
  | 1 => some (4, 7)
  | 3 => some (6, 9)
  | 4 => some (3, 4)
  | 7 => some (2, 7)
  | 8 => some (1, 3)
  | 11 => some (5, 1)
  | 13 => some (7, 16)
  | _ => none
/-- kinds that are arrays: type in the list of array types, length -/
def hq_as (k : Nat) : Option (Nat × Nat) := match k with
  | 2 => some (5, 10)
  | 5 => some (4, 6)
  | 6 => some (1, 60)
  | 9 => some (1, 729)
  | 10 => some (2, 64)
  | 12 => some (2, 1024)
  | 14 => some (1, 520)
  | 15 => some (0, 60)
  | 16 => some (2, 6)
  | 17 => some (2, 10)
  | 18 => some (3, 4096)
  | 19 => some (1, 729)
  | 20 => some (2, 1)
  | _ => none
abbrev hq_A5 : Type := (Nat → Int32) ⊕ (Nat → Int64) ⊕ (Nat → UInt32) ⊕ (Nat → UInt64) ⊕ (Nat → Option Nat)
/-- an array's contents, by the number of its type -/
def hq_ac (b : Nat) (h : hq_H) (t k i : Nat) : hq_A5 := match t with
  | 2 => .inr (.inl (h.2 k i))
  | 4 => .inr (.inr (.inr (.inr (fun s => some (b + hq_off (hq_HR k i s).1 (hq_HR k i s).2)))))
  | 5 => .inr (.inr (.inr (.inr (fun s => some (b + hq_off (hq_HR k i s).1 (hq_HR k i s).2)))))
  | _ => .inl (h.1 k i)
def hq_ent (b : Nat) (cy : Nat → ClassId) (h : hq_H) (k i : Nat) : va_E := match hq_os k with
  | some o => .inr (o.1, (List.range o.2).map (fun s => hq_cv b (hq_fv h k i s)))
  | none => match hq_as k with
    | some a => .inl (cy a.1, a.2, hq_ac b h a.1 k i)
    | none => .inr (0, [])
def hq_w (b : Nat) (cy : Nat → ClassId) (h : hq_H) : va_W := (List.range 127).map (fun i => (b + i, hq_ent b cy h (hq_kn i).1 (hq_kn i).2))
def hq_tys (cy : Nat → ClassId) : List (ClassId × FieldType) := [(cy 0, .int), (cy 1, .int), (cy 2, .long), (cy 3, .int), (cy 4, .object RX0), (cy 5, .object RX4)]
def hq_AA (b : Nat) : Nat → Prop := fun q => b ≤ q
def hq_strs : List (Nat × String) := [(152, "there is no snapshot"), (155, "there is no saved state"), (61, "the fine is not 1 to 9"), (66, "a mask of rooms is not 0 to 63"), (68, "a room is named twice, or none is named"), (75, "there are 10 rules"), (306, "there is no such rule"), (102, "the days are not 0 to 30"), (309, "there is no such room"), (115, "the room is let, or a rule refuses the guest"), (121, "the room is empty, or a rule refuses that the guest goes"), (311, "the nights are not 1 to 30"), (172, "the way is not 0 to 63"), (313, "there are no such rules")]
def hq_wx : List Cond := [.castable "java/lang/IllegalStateException" "java/lang/IllegalStateException", .declares ⟨"java/lang/RuntimeException", "<init>", "()V"⟩, .declares ⟨"java/lang/RuntimeException", "<init>", "(Ljava/lang/String;)V"⟩, .declares ⟨"java/lang/Exception", "<init>", "()V"⟩, .declares ⟨"java/lang/Exception", "<init>", "(Ljava/lang/String;)V"⟩, .declares ⟨"java/lang/Throwable", "<init>", "()V"⟩, .declares ⟨"java/lang/Throwable", "<init>", "(Ljava/lang/String;)V"⟩, .castable "java/lang/IllegalArgumentException" "java/lang/IllegalArgumentException", .castable "java/lang/IndexOutOfBoundsException" "java/lang/IndexOutOfBoundsException"]
def hq_ZS (b : Nat) (U : State) (H : Heap) : Prop := vx_Zq Bundle.tN "UNASSIGNED_STACK" Bundle.steD (hq_AA b) U H ∧ vx_Zq Bundle.tN "SUPPRESSED_SENTINEL" Bundle.listD (hq_AA b) U H ∧ (∀ q ∈ hq_strs, ∃ a, vk_R RX6 q.1 q.2 a U) ∧ ∀ w ∈ hq_wx, va_Nw w U
def hq_ws : List Cond := lw_tbl.filter goodWord
def hq_wm (M : hq_M) : List Cond := .code M.1 M.2.1 M.2.2.1 M.2.2.2 :: hq_ws
def hq_mc (r : hq_R) : Nat := match r with
  | .inl _ => 0
  | .inr _ => 1
def hq_ms (r : hq_R) : Nat := match r with
  | .inl _ => 0
  | .inr _ => 6
def hq_RM (d : Nat) (r : hq_R) : Room := { frames := 2 * d + 8, cells := hq_mc r, slots := hq_ms r, locals := 80 * d + 120 }
def hq_ok (v : hq_V) : Prop := match v with
  | .inl _ => True
  | .inr q => q.2 < hq_cnt q.1
def hq_okS (st : List hq_V) : Prop := match st with
  | [] => True
  | v :: r => hq_ok v ∧ hq_okS r
def hq_okR (r : hq_R) : Prop := match r with
  | .inl (some v) => hq_ok v
  | _ => True
def hq_okL (ls : hq_L) : Prop := ∀ (k : Nat) (v : hq_V), ls[k]? = some (some v) → hq_ok v
def hq_LH (b : Nat) (ls : hq_L) (la : Array Slot) (n : Nat) : Prop := la.size = n ∧ lv_wf la ∧ ∀ (k : Nat) (v : hq_V), ls[k]? = some (some v) → la[k]? = some (.val (hq_cv b v))
def hq_QC (b : Nat) (cy : Nat → ClassId) (D : va_G) (hr : hq_H) (res : hq_R) : Array Value → State → Outcome → State → Prop := fun _ st oc t =>
  (∃ r, res = .inl r ∧ oc = .returned (r.map (hq_cv b))) ∧ va_P D vwCl (hq_w b cy hr) t.heap ∧ va_F (hq_AA b) st t
def hq_XC (b : Nat) (cy : Nat → ClassId) (D : va_G) (hr : hq_H) (res : hq_R) : String → State → State → Prop := fun E st t =>
  res = .inr E ∧ va_P D vwCl (hq_w b cy hr) t.heap ∧ va_F (hq_AA b) st t
def hq_Pc (b : Nat) (cy : Nat → ClassId) (D : va_G) (args : List hq_V) (h : hq_H) : Array Value → State → Prop := va_Pc (args.map (hq_cv b)) (fun U => va_P D vwCl (hq_w b cy h) U.heap ∧ va_K D vwCl (hq_tys cy) U ∧ hq_ZS b U U.heap)
/-- THE CONTRACT: from the world h with these arguments the method answers res (or throws), and the world is hr -/
def hq_Met (d : Nat) (M : hq_M) (args : List hq_V) (h : hq_H) (res : hq_R) (hr : hq_H) : Prop := hq_okS args → hq_okR res ∧ (∀ (l : Launch) (D : va_G) (cy : Nat → ClassId) (b : Nat), l.stackTraces = false →
  vx_Met l M.1 (hq_wm M) (hq_RM d res) (hq_Pc b cy D args h) (hq_QC b cy D hr res) (hq_XC b cy D hr res) (hq_mc res) (hq_ms res) (hq_AA b))
/-- what every point of a method stands on -/
def hq_CX (M : hq_M) (d : Nat) (D : va_G) (cy : Nat → ClassId) (b : Nat) (p : Program) (l : Launch) (R : Room) (s : State) (m : MethodId) (args : Array Value) (c : Code) (cells slots : Nat) : Prop :=
  p.tables.exec = Jvm.exec ∧ c.code = M.2.1 ∧ c.maxLocals = M.2.2.1 ∧ s.vm.findClass M.1.cls = some m.cls ∧ (∀ w ∈ hq_ws, w.before args s = true) ∧ va_K D vwCl (hq_tys cy) s ∧ hq_ZS b s s.heap ∧
  l.stackTraces = false ∧ 2 * d + 10 ≤ R.frames ∧ 80 * d + 200 ≤ R.locals ∧ cells ≤ R.cells ∧ slots ≤ R.slots
/-- a mode: how a stretch ends, and what room it has used -/
abbrev hq_G : Type := Program → Launch → Env → Room → State → MethodId → Array Value → List Frame → Method → Code → va_G → (Nat → ClassId) → Nat → Nat → Nat → (State → Prop) → Prop
/-- the mode of a method's body: it ends with res and the world hr, or throws -/
def hq_Gm (M : hq_M) (res : hq_R) (hr : hq_H) : hq_G := fun p l e R s m args below meth c D cy b cells slots Q =>
  meth.sig.returnType = M.2.2.2 ∧ meth.locks = false ∧ (∀ x ∈ c.exceptionTable.toList, False) ∧ cells = 0 ∧ slots = 0 ∧ hq_mc res ≤ R.cells ∧ hq_ms res ≤ R.slots ∧
  Q = vx_MQ below (hq_QC b cy D hr res) (hq_XC b cy D hr res) args s (hq_mc res) (hq_ms res) (hq_AA b)
/-- A POINT: the method M, at pc, with these locals, stack and world, comes to its end (its callees have the depth d) -/
def hq_T (G : hq_G) (M : hq_M) (d : Nat) (pc : Nat) : hq_C := fun ls st h =>
  ∀ {p : Program} {l : Launch} {e : Env} {R : Room} {s : State} {m : MethodId} {args : Array Value} {below : List Frame} {meth : Method} {c : Code} (D : va_G) (cy : Nat → ClassId) (b : Nat) (H : Heap) (locs : List Loc) (la : Array Slot) (cells slots : Nat) (Q : State → Prop),
  hq_CX M d D cy b p l R s m args c cells slots → G p l e R s m args below meth c D cy b cells slots Q → va_P D vwCl (hq_w b cy h) H → va_S (hq_AA b) s.heap H locs → hq_LH b ls la M.2.2.1 → hq_okS st → hq_okL ls →
  W p l e R s m args below meth c H locs cells slots Q (F0 m pc la (st.map (hq_cv b)))
/-- a stretch of code, as what has to hold ahead of it -/
def hq_S (G : hq_G) (M : hq_M) (d : Nat) (pc : Nat) (K : hq_C) : Prop := ∀ (ls : hq_L) (st : List hq_V) (h : hq_H), K ls st h → hq_T G M d pc ls st h
theorem hq_J {G : hq_G} {M : hq_M} {d : Nat} {pc : Nat} : hq_S G M d pc (hq_T G M d pc) := fun _ _ _ h => h
-- ===== the world's cells by kind and number =====
theorem hq_kn_off : ∀ k, k < 13 → ∀ i, i < 99 → i < hq_cnt k → hq_kn (hq_off k i) = (k, i) ∧ hq_off k i < 127 := by decide +kernel
theorem hq_off_kn : ∀ j, j < 127 → hq_off (hq_kn j).1 (hq_kn j).2 = j := by decide +kernel
theorem hq_cnt_lt {k i : Nat} (h : i < hq_cnt k) : k < 13 ∧ i < 99 := by
  match k, h with
  | 0, h => exact ⟨by decide, by have h : i < 9 := h; omega⟩
  | 1, h => exact ⟨by decide, h⟩
  | 2, h => exact ⟨by decide, by have h : i < 9 := h; omega⟩
  | k + 3, h =>
    have h : i < (if k < 10 then 1 else 0) := h
    by_cases hk : k < 10
    · rw [if_pos hk] at h; omega
    · rw [if_neg hk] at h; omega
theorem hq_kno {k i : Nat} (h : i < hq_cnt k) : hq_kn (hq_off k i) = (k, i) := (hq_kn_off k (hq_cnt_lt h).1 i (hq_cnt_lt h).2 h).1
theorem hq_olt {k i : Nat} (h : i < hq_cnt k) : hq_off k i < 127 := (hq_kn_off k (hq_cnt_lt h).1 i (hq_cnt_lt h).2 h).2
theorem hq_wat (b : Nat) (cy : Nat → ClassId) (h : hq_H) {k i : Nat} (hi : i < hq_cnt k) : (hq_w b cy h)[hq_off k i]? = some (b + hq_off k i, hq_ent b cy h k i) := by
  unfold hq_w
  rw [List.getElem?_map, List.getElem?_range (hq_olt hi)]
  show some (b + hq_off k i, hq_ent b cy h (hq_kn (hq_off k i)).1 (hq_kn (hq_off k i)).2) = _
  rw [hq_kno hi]
theorem hq_wset {b : Nat} {cy : Nat → ClassId} {h h' : hq_H} {k i : Nat} {e : va_E} (hi : i < hq_cnt k) (he : hq_ent b cy h' k i = e) (ho : ∀ k' i', ¬ (k' = k ∧ i' = i) → hq_ent b cy h' k' i' = hq_ent b cy h k' i') :
    (hq_w b cy h).set (hq_off k i) (b + hq_off k i, e) = hq_w b cy h' := by
  apply List.ext_getElem?
  intro j
  by_cases hj : j < 127
  · by_cases hjo : hq_off k i = j
    · subst hjo
      rw [List.getElem?_set_self (by unfold hq_w; rw [List.length_map, List.length_range]; exact hj), hq_wat b cy h' hi, he]
    · rw [List.getElem?_set_ne hjo]
      unfold hq_w
      rw [List.getElem?_map, List.getElem?_map, List.getElem?_range hj]
      show some (b + j, hq_ent b cy h (hq_kn j).1 (hq_kn j).2) = some (b + j, hq_ent b cy h' (hq_kn j).1 (hq_kn j).2)
      rw [ho (hq_kn j).1 (hq_kn j).2]
      rintro ⟨h1, h2⟩
      apply hjo
      rw [← h1, ← h2]
      exact hq_off_kn j hj
  · have l1 : (hq_w b cy h).length = 127 := by unfold hq_w; rw [List.length_map, List.length_range]
    have l2 : (hq_w b cy h').length = 127 := by unfold hq_w; rw [List.length_map, List.length_range]
    rw [List.getElem?_eq_none (by rw [List.length_set, l1]; omega), List.getElem?_eq_none (by rw [l2]; omega)]
theorem hq_wD (b : Nat) (cy : Nat → ClassId) (h : hq_H) : va_D (hq_AA b) (hq_w b cy h) := by
  have key : ∀ (j : Nat) (q : Nat × va_E), (hq_w b cy h)[j]? = some q → q.1 = b + j := by
    intro j q hq
    unfold hq_w at hq
    rw [List.getElem?_map] at hq
    cases hr : (List.range 127)[j]? with
    | none => rw [hr] at hq; cases hq
    | some x =>
      rw [hr] at hq
      have hx : x = j := by
        have := List.getElem?_eq_some_iff.mp hr
        obtain ⟨h1, h2⟩ := this
        rw [List.getElem_range] at h2
        exact h2.symm
      subst hx
      cases hq
      rfl
  refine ⟨fun i j p q hp hq hpq => ?_, fun k q hk => ?_⟩
  · have h1 := key i p hp
    have h2 := key j q hq
    omega
  · show b ≤ q.1
    rw [key k q hk]
    omega
theorem hq_ent_o (b : Nat) (cy : Nat → ClassId) (h : hq_H) {k ci n : Nat} (i : Nat) (ho : hq_os k = some (ci, n)) : hq_ent b cy h k i = .inr (ci, (List.range n).map (fun s => hq_cv b (hq_fv h k i s))) := by
  unfold hq_ent
  rw [ho]
theorem hq_ent_a (b : Nat) (cy : Nat → ClassId) (h : hq_H) {k t n : Nat} (i : Nat) (ho : hq_os k = none) (ha : hq_as k = some (t, n)) : hq_ent b cy h k i = .inl (cy t, n, hq_ac b h t k i) := by
  unfold hq_ent
  rw [ho]
  show (match hq_as k with | some a => _ | none => _) = _
  rw [ha]
-- ===== writing =====
def hq_si (h : hq_H) (k i s : Nat) (x : Int32) : hq_H := (fun k' i' s' => if k' = k then if s' = s then if i' = i then x else h.1 k' i' s' else h.1 k' i' s' else h.1 k' i' s', h.2)
def hq_sl (h : hq_H) (k i s : Nat) (x : Int64) : hq_H := (h.1, fun k' i' s' => if k' = k then if s' = s then if i' = i then x else h.2 k' i' s' else h.2 k' i' s' else h.2 k' i' s')
theorem hq_si_o (h : hq_H) {k i : Nat} (s : Nat) (x : Int32) {k' i' : Nat} (hn : ¬ (k' = k ∧ i' = i)) : (hq_si h k i s x).1 k' i' = h.1 k' i' := by
  funext s'
  show (if k' = k then if s' = s then if i' = i then x else h.1 k' i' s' else h.1 k' i' s' else h.1 k' i' s') = _
  split
  · split
    · split
      · exact absurd ⟨by assumption, by assumption⟩ hn
      · rfl
    · rfl
  · rfl
theorem hq_sl_o (h : hq_H) {k i : Nat} (s : Nat) (x : Int64) {k' i' : Nat} (hn : ¬ (k' = k ∧ i' = i)) : (hq_sl h k i s x).2 k' i' = h.2 k' i' := by
  funext s'
  show (if k' = k then if s' = s then if i' = i then x else h.2 k' i' s' else h.2 k' i' s' else h.2 k' i' s') = _
  split
  · split
    · split
      · exact absurd ⟨by assumption, by assumption⟩ hn
      · rfl
    · rfl
  · rfl
theorem hq_si_s (h : hq_H) (k i s : Nat) (x : Int32) (s' : Nat) : (hq_si h k i s x).1 k i s' = if s' = s then x else h.1 k i s' := by
  show (if k = k then if s' = s then if i = i then x else h.1 k i s' else h.1 k i s' else h.1 k i s') = _
  rw [if_pos rfl, if_pos rfl]
theorem hq_sl_s (h : hq_H) (k i s : Nat) (x : Int64) (s' : Nat) : (hq_sl h k i s x).2 k i s' = if s' = s then x else h.2 k i s' := by
  show (if k = k then if s' = s then if i = i then x else h.2 k i s' else h.2 k i s' else h.2 k i s') = _
  rw [if_pos rfl, if_pos rfl]
theorem hq_ent_c {b : Nat} {cy : Nat → ClassId} {h h' : hq_H} {k i : Nat} (h1 : h'.1 k i = h.1 k i) (h2 : h'.2 k i = h.2 k i) : hq_ent b cy h' k i = hq_ent b cy h k i := by
  have hf : ∀ s, hq_fv h' k i s = hq_fv h k i s := by
    intro s
    unfold hq_fv
    rw [h1, h2]
  have ha : ∀ t, hq_ac b h' t k i = hq_ac b h t k i := by
    intro t
    unfold hq_ac
    rw [h1, h2]
  unfold hq_ent
  simp only [hf, ha]
