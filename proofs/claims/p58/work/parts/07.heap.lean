theorem hq_fv_ok {h : hq_H} {k i s : Nat} (hi : i < hq_cnt k) : hq_ok (hq_fv h k i s) := by
  have hk := (hq_cnt_lt hi).1
  unfold hq_fv
  split
  · trivial
  · trivial
  · show (hq_HR k i s).2 < hq_cnt (hq_HR k i s).1
    match k, hk, hi with
    | 0, _, hi =>
      have hi : i < 9 := hi
      match s with
      | 0 => exact hi
      | s + 1 => show 11 * i + 10 < 99; omega
    | 1, _, _ => show (0 : Nat) < 9; omega
    | 2, _, hi =>
      have hi : i < 9 := hi
      show 11 * i + s < 99
      exact absurd rfl (by assumption)
    | 3, _, _ =>
      match s with
      | 0 => exact Nat.le_of_ble_eq_true rfl
      | 1 => exact Nat.le_of_ble_eq_true rfl
      | 2 => exact Nat.le_of_ble_eq_true rfl
      | 3 => exact Nat.le_of_ble_eq_true rfl
      | 4 => exact Nat.le_of_ble_eq_true rfl
      | 5 => exact Nat.le_of_ble_eq_true rfl
      | 6 => exact Nat.le_of_ble_eq_true rfl
      | 7 => exact Nat.le_of_ble_eq_true rfl
      | s + 8 => show (0 : Nat) < 1; omega
    | 4, _, _ =>
      match s with
      | 0 => exact Nat.le_of_ble_eq_true rfl
      | s + 1 => show (8 : Nat) < 9; omega
    | 5, _, _ => exact absurd rfl (by assumption)
    | 6, _, _ => exact Nat.le_of_ble_eq_true rfl
    | 7, _, _ => exact Nat.le_of_ble_eq_true rfl
    | 8, _, _ =>
      match s with
      | 0 => exact Nat.le_of_ble_eq_true rfl
      | s + 1 => show (0 : Nat) < 1; omega
    | 9, _, _ => exact Nat.le_of_ble_eq_true rfl
    | 10, _, _ => exact Nat.le_of_ble_eq_true rfl
    | 11, _, _ => exact Nat.le_of_ble_eq_true rfl
    | 12, _, _ => exact Nat.le_of_ble_eq_true rfl
    | 13, _, _ =>
      match s with
      | 0 => exact Nat.le_of_ble_eq_true rfl
      | 1 => exact Nat.le_of_ble_eq_true rfl
      | 2 => exact Nat.le_of_ble_eq_true rfl
      | 3 => exact Nat.le_of_ble_eq_true rfl
      | 4 => exact Nat.le_of_ble_eq_true rfl
      | 5 => exact Nat.le_of_ble_eq_true rfl
      | 6 => exact Nat.le_of_ble_eq_true rfl
      | 7 => exact Nat.le_of_ble_eq_true rfl
      | 8 => exact Nat.le_of_ble_eq_true rfl
      | 9 => exact Nat.le_of_ble_eq_true rfl
      | 10 => exact Nat.le_of_ble_eq_true rfl
      | 11 => exact Nat.le_of_ble_eq_true rfl
      | 12 => exact Nat.le_of_ble_eq_true rfl
      | 13 => exact Nat.le_of_ble_eq_true rfl
      | 14 => exact Nat.le_of_ble_eq_true rfl
      | s + 15 => exact Nat.le_of_ble_eq_true rfl
    | 14, _, _ => exact Nat.le_of_ble_eq_true rfl
    | 15, _, _ => exact Nat.le_of_ble_eq_true rfl
    | 16, _, _ => exact Nat.le_of_ble_eq_true rfl
    | 17, _, _ => exact Nat.le_of_ble_eq_true rfl
    | 18, _, _ => exact Nat.le_of_ble_eq_true rfl
    | 19, _, _ => exact Nat.le_of_ble_eq_true rfl
    | 20, _, _ => exact Nat.le_of_ble_eq_true rfl
    | k + 21, hk, _ => omega
theorem hq_len_map (b : Nat) (h : hq_H) (k i n : Nat) : ((List.range n).map (fun s => hq_cv b (hq_fv h k i s))).length = n := by rw [List.length_map, List.length_range]
theorem hq_map_at (b : Nat) (h : hq_H) (k i : Nat) {n s : Nat} (hs : s < n) : ((List.range n).map (fun s => hq_cv b (hq_fv h k i s)))[s]? = some (hq_cv b (hq_fv h k i s)) := by
  rw [List.getElem?_map, List.getElem?_range hs]
  rfl
theorem hq_map_set {b : Nat} {h h' : hq_H} {k i n s : Nat} {v : Value} (h1 : hq_cv b (hq_fv h' k i s) = v) (h2 : ∀ j, j ≠ s → hq_fv h' k i j = hq_fv h k i j) :
    (List.range n).map (fun s => hq_cv b (hq_fv h' k i s)) = ((List.range n).map (fun s => hq_cv b (hq_fv h k i s))).set s v := by
  apply List.ext_getElem?
  intro j
  by_cases hj : j < n
  · by_cases hjs : s = j
    · subst hjs
      rw [List.getElem?_set_self (by rw [hq_len_map]; exact hj), hq_map_at _ _ _ _ hj, h1]
    · rw [List.getElem?_set_ne hjs, hq_map_at _ _ _ _ hj, hq_map_at _ _ _ _ hj, h2 j (fun z => hjs z.symm)]
  · rw [List.getElem?_eq_none (by rw [hq_len_map]; omega), List.getElem?_eq_none (by rw [List.length_set, hq_len_map]; omega)]
section HH
variable {G : hq_G} {M : hq_M} {d pc : Nat} {K : hq_C}
def hk_getf (kind slot : Nat) (K : hq_C) : hq_C := fun ls st h => hq_pa st (fun k i r => hq_is k kind (K ls (hq_fv h kind i slot :: r) h))
theorem hs_getf {kind slot ci n idx : Nat} {Cn : String} {T : u_T} (hd : decode M.2.1 pc = .ok (.getfield idx, 3)) (ho : hq_os kind = some (ci, n)) (hc : vwCl[ci]? = some (Cn, T, n)) (hin : ∀ w ∈ u_ws Cn T n, w ∈ hq_ws) (hk : slot < n)
    (hw : Cond.fieldLink M.1.cls idx (T slot).1 (T slot).2.1 (T slot).2.2.1 ∈ hq_ws) (k : hq_S G M d (pc + 3) K) : hq_S G M d pc (hk_getf kind slot K) := by
  intro ls st h hh
  obtain ⟨kk, i, r, rfl, hy⟩ := hq_pa_of hh
  obtain ⟨rfl, hw9⟩ := hq_is_of hy
  intro p l e R s m args below meth c D cy b H locs la cells slots Q C g hP hS hL hst hls
  have he := hq_wat b cy h hst.1
  rw [hq_ent_o b cy h i ho] at he
  exact va_get C.1 C.2.1 (C.2.2.2.2.1) hin C.2.2.2.1 C.2.2.2.2.2.1 hP _ he hc slot hk (C.2.2.2.2.1 _ hw) (fun _ z => z) (hq_map_at b h kk i hk) hd (k _ _ _ hw9 D cy b H locs la cells slots Q C g hP hS hL ⟨hq_fv_ok hst.1, hst.2⟩ hls)
theorem hq_os_as {k : Nat} {x : Nat × Nat} (h : hq_as k = some x) : hq_os k = none := by
  match k, h with
  | 2, _ => rfl
  | 5, _ => rfl
  | 6, _ => rfl
  | 9, _ => rfl
  | 10, _ => rfl
  | 12, _ => rfl
  | 14, _ => rfl
  | 15, _ => rfl
  | 16, _ => rfl
  | 17, _ => rfl
  | 18, _ => rfl
  | 19, _ => rfl
  | 20, _ => rfl
  | k + 21, h => cases h
theorem hq_put_w {kind slot ci n i : Nat} {b : Nat} {cy : Nat → ClassId} {h h' : hq_H} {v : Value} (ho : hq_os kind = some (ci, n)) (hi : i < hq_cnt kind) (h1 : hq_cv b (hq_fv h' kind i slot) = v) (h2 : ∀ j, j ≠ slot → hq_fv h' kind i j = hq_fv h kind i j)
    (h3 : ∀ k' i', ¬ (k' = kind ∧ i' = i) → h'.1 k' i' = h.1 k' i' ∧ h'.2 k' i' = h.2 k' i') :
    (hq_w b cy h).set (hq_off kind i) (b + hq_off kind i, .inr (ci, ((List.range n).map (fun s => hq_cv b (hq_fv h kind i s))).set slot v)) = hq_w b cy h' := by
  refine hq_wset hi ?_ (fun k' i' hn => hq_ent_c (h3 k' i' hn).1 (h3 k' i' hn).2)
  rw [hq_ent_o b cy h' i ho, hq_map_set h1 h2]
theorem hq_fv_si {h : hq_H} {k i s : Nat} {x : Int32} {j : Nat} (hj : j ≠ s) : hq_fv (hq_si h k i s x) k i j = hq_fv h k i j := by
  unfold hq_fv
  rw [hq_si_s, if_neg hj]
  rfl
theorem hq_fv_sl {h : hq_H} {k i s : Nat} {x : Int64} {j : Nat} (hj : j ≠ s) : hq_fv (hq_sl h k i s x) k i j = hq_fv h k i j := by
  unfold hq_fv
  rw [hq_sl_s, if_neg hj]
  rfl
theorem hq_si_both (h : hq_H) {k i : Nat} (s : Nat) (x : Int32) (k' i' : Nat) (hn : ¬ (k' = k ∧ i' = i)) : (hq_si h k i s x).1 k' i' = h.1 k' i' ∧ (hq_si h k i s x).2 k' i' = h.2 k' i' := ⟨hq_si_o h s x hn, rfl⟩
theorem hq_sl_both (h : hq_H) {k i : Nat} (s : Nat) (x : Int64) (k' i' : Nat) (hn : ¬ (k' = k ∧ i' = i)) : (hq_sl h k i s x).1 k' i' = h.1 k' i' ∧ (hq_sl h k i s x).2 k' i' = h.2 k' i' := ⟨rfl, hq_sl_o h s x hn⟩
/-- the stack: a number over a reference; two numbers over one .. -/
def hq_pia (st : List hq_V) (f : Int32 → Nat → Nat → List hq_V → Prop) : Prop := match st with
  | .inl (.int x) :: .inr q :: r => f x q.1 q.2 r
  | _ => False
theorem hq_pia_of {st : List hq_V} {f : Int32 → Nat → Nat → List hq_V → Prop} (h : hq_pia st f) : ∃ (x : Int32) (k i : Nat) (r : List hq_V), st = .inl (.int x) :: .inr (k, i) :: r ∧ f x k i r := by
  unfold hq_pia at h
  split at h
  · exact ⟨_, _, _, _, rfl, h⟩
  · exact h.elim
def hq_pla (st : List hq_V) (f : Int64 → Nat → Nat → List hq_V → Prop) : Prop := match st with
  | .inl (.long x) :: .inr q :: r => f x q.1 q.2 r
  | _ => False
theorem hq_pla_of {st : List hq_V} {f : Int64 → Nat → Nat → List hq_V → Prop} (h : hq_pla st f) : ∃ (x : Int64) (k i : Nat) (r : List hq_V), st = .inl (.long x) :: .inr (k, i) :: r ∧ f x k i r := by
  unfold hq_pla at h
  split at h
  · exact ⟨_, _, _, _, rfl, h⟩
  · exact h.elim
def hq_piia (st : List hq_V) (f : Int32 → Int32 → Nat → Nat → List hq_V → Prop) : Prop := match st with
  | .inl (.int v) :: .inl (.int x) :: .inr q :: r => f v x q.1 q.2 r
  | _ => False
theorem hq_piia_of {st : List hq_V} {f : Int32 → Int32 → Nat → Nat → List hq_V → Prop} (h : hq_piia st f) : ∃ (v x : Int32) (k i : Nat) (r : List hq_V), st = .inl (.int v) :: .inl (.int x) :: .inr (k, i) :: r ∧ f v x k i r := by
  unfold hq_piia at h
  split at h
  · exact ⟨_, _, _, _, _, rfl, h⟩
  · exact h.elim
def hq_plia (st : List hq_V) (f : Int64 → Int32 → Nat → Nat → List hq_V → Prop) : Prop := match st with
  | .inl (.long v) :: .inl (.int x) :: .inr q :: r => f v x q.1 q.2 r
  | _ => False
theorem hq_plia_of {st : List hq_V} {f : Int64 → Int32 → Nat → Nat → List hq_V → Prop} (h : hq_plia st f) : ∃ (v : Int64) (x : Int32) (k i : Nat) (r : List hq_V), st = .inl (.long v) :: .inl (.int x) :: .inr (k, i) :: r ∧ f v x k i r := by
  unfold hq_plia at h
  split at h
  · exact ⟨_, _, _, _, _, rfl, h⟩
  · exact h.elim
def hk_putI (kind slot : Nat) (K : hq_C) : hq_C := fun ls st h => hq_pia st (fun x k i r => hq_is k kind (K ls r (hq_si h kind i slot x)))
theorem hs_putI {kind slot ci n idx : Nat} {Cn : String} {T : u_T} {tyf : Nat → FieldType} (hd : decode M.2.1 pc = .ok (.putfield idx, 3)) (ho : hq_os kind = some (ci, n)) (hc : vwCl[ci]? = some (Cn, T, n)) (hin : ∀ w ∈ u_ws Cn T n, w ∈ hq_ws) (hty : ∀ k, k < n → parseFieldDescriptor (T k).2.2.1 = some (tyf k)) (hnm : ∀ a, a < n → ∀ b, b < n → a ≠ b → (T a).2.1 ≠ (T b).2.1) (hk : slot < n) (hft : hq_ft kind slot = 0) (hfin : (T slot).2.2.2 = false) (ht : tyf slot = .int)
    (hw : Cond.fieldLink M.1.cls idx (T slot).1 (T slot).2.1 (T slot).2.2.1 ∈ hq_ws) (k : hq_S G M d (pc + 3) K) : hq_S G M d pc (hk_putI kind slot K) := by
  intro ls st h hh
  obtain ⟨x, kk, i, r, rfl, hy⟩ := hq_pia_of hh
  obtain ⟨rfl, hw9⟩ := hq_is_of hy
  have hn : narrow .int (.int x) = .int x := rfl
  have hf : fits .int (.int x) = true := rfl
  intro p l e R s m args below meth c D cy b H locs la cells slots Q C g hP hS hL hst hls
  have he := hq_wat b cy h hst.2.1
  rw [hq_ent_o b cy h i ho] at he
  refine va_put C.1 C.2.1 (C.2.2.2.2.1) hin tyf hty hnm C.2.2.2.1 C.2.2.2.2.2.1 hP (hq_wD b cy h) hS _ he hc slot hk (C.2.2.2.2.1 _ hw) (fun _ z => z) hfin (ty := .int) (by rw [← ht]; exact hty slot hk) hn hf (by rw [hq_len_map]; exact hk) hd (fun H1 locs1 hP1 hD1 hS1 => ?_)
  rw [hq_put_w (h' := hq_si h kk i slot x) ho hst.2.1 (by unfold hq_fv; rw [hft, hq_si_s, if_pos rfl]; rfl) (fun j hj => hq_fv_si hj) (hq_si_both h slot x)] at hP1
  exact k _ _ _ hw9 D cy b H1 locs1 la cells slots Q C g hP1 hS1 hL hst.2.2 hls
def hk_putZ (kind slot : Nat) (K : hq_C) : hq_C := fun ls st h => hq_pia st (fun x k i r => hq_is k kind ((x = 0 ∨ x = 1) ∧ K ls r (hq_si h kind i slot x)))
theorem hs_putZ {kind slot ci n idx : Nat} {Cn : String} {T : u_T} {tyf : Nat → FieldType} (hd : decode M.2.1 pc = .ok (.putfield idx, 3)) (ho : hq_os kind = some (ci, n)) (hc : vwCl[ci]? = some (Cn, T, n)) (hin : ∀ w ∈ u_ws Cn T n, w ∈ hq_ws) (hty : ∀ k, k < n → parseFieldDescriptor (T k).2.2.1 = some (tyf k)) (hnm : ∀ a, a < n → ∀ b, b < n → a ≠ b → (T a).2.1 ≠ (T b).2.1) (hk : slot < n) (hft : hq_ft kind slot = 0) (hfin : (T slot).2.2.2 = false) (ht : tyf slot = .boolean)
    (hw : Cond.fieldLink M.1.cls idx (T slot).1 (T slot).2.1 (T slot).2.2.1 ∈ hq_ws) (k : hq_S G M d (pc + 3) K) : hq_S G M d pc (hk_putZ kind slot K) := by
  intro ls st h hh
  obtain ⟨x, kk, i, r, rfl, hy⟩ := hq_pia_of hh
  obtain ⟨rfl, hw9⟩ := hq_is_of hy
  obtain ⟨hz, hw9⟩ := hw9
  have hn : narrow .boolean (.int x) = .int x := by rcases hz with rfl | rfl <;> decide
  have hf : fits .boolean (.int x) = true := by rcases hz with rfl | rfl <;> decide
  intro p l e R s m args below meth c D cy b H locs la cells slots Q C g hP hS hL hst hls
  have he := hq_wat b cy h hst.2.1
  rw [hq_ent_o b cy h i ho] at he
  refine va_put C.1 C.2.1 (C.2.2.2.2.1) hin tyf hty hnm C.2.2.2.1 C.2.2.2.2.2.1 hP (hq_wD b cy h) hS _ he hc slot hk (C.2.2.2.2.1 _ hw) (fun _ z => z) hfin (ty := .boolean) (by rw [← ht]; exact hty slot hk) hn hf (by rw [hq_len_map]; exact hk) hd (fun H1 locs1 hP1 hD1 hS1 => ?_)
  rw [hq_put_w (h' := hq_si h kk i slot x) ho hst.2.1 (by unfold hq_fv; rw [hft, hq_si_s, if_pos rfl]; rfl) (fun j hj => hq_fv_si hj) (hq_si_both h slot x)] at hP1
  exact k _ _ _ hw9 D cy b H1 locs1 la cells slots Q C g hP1 hS1 hL hst.2.2 hls
def hk_putC (kind slot : Nat) (K : hq_C) : hq_C := fun ls st h => hq_pia st (fun x k i r => hq_is k kind ((∃ q, q < 65536 ∧ x = nI q) ∧ K ls r (hq_si h kind i slot x)))
theorem hs_putC {kind slot ci n idx : Nat} {Cn : String} {T : u_T} {tyf : Nat → FieldType} (hd : decode M.2.1 pc = .ok (.putfield idx, 3)) (ho : hq_os kind = some (ci, n)) (hc : vwCl[ci]? = some (Cn, T, n)) (hin : ∀ w ∈ u_ws Cn T n, w ∈ hq_ws) (hty : ∀ k, k < n → parseFieldDescriptor (T k).2.2.1 = some (tyf k)) (hnm : ∀ a, a < n → ∀ b, b < n → a ≠ b → (T a).2.1 ≠ (T b).2.1) (hk : slot < n) (hft : hq_ft kind slot = 0) (hfin : (T slot).2.2.2 = false) (ht : tyf slot = .char)
    (hw : Cond.fieldLink M.1.cls idx (T slot).1 (T slot).2.1 (T slot).2.2.1 ∈ hq_ws) (k : hq_S G M d (pc + 3) K) : hq_S G M d pc (hk_putC kind slot K) := by
  intro ls st h hh
  obtain ⟨x, kk, i, r, rfl, hy⟩ := hq_pia_of hh
  obtain ⟨rfl, hw9⟩ := hq_is_of hy
  obtain ⟨⟨q, hq, rfl⟩, hv9⟩ := hw9
  obtain ⟨hn, hf⟩ := pk_charN hq
  intro p l e R s m args below meth c D cy b H locs la cells slots Q C g hP hS hL hst hls
  have he := hq_wat b cy h hst.2.1
  rw [hq_ent_o b cy h i ho] at he
  refine va_put C.1 C.2.1 (C.2.2.2.2.1) hin tyf hty hnm C.2.2.2.1 C.2.2.2.2.2.1 hP (hq_wD b cy h) hS _ he hc slot hk (C.2.2.2.2.1 _ hw) (fun _ z => z) hfin (ty := .char) (by rw [← ht]; exact hty slot hk) hn hf (by rw [hq_len_map]; exact hk) hd (fun H1 locs1 hP1 hD1 hS1 => ?_)
  rw [hq_put_w (h' := hq_si h kk i slot (nI q)) ho hst.2.1 (by unfold hq_fv; rw [hft, hq_si_s, if_pos rfl]; rfl) (fun j hj => hq_fv_si hj) (hq_si_both h slot (nI q))] at hP1
  exact k _ _ _ hv9 D cy b H1 locs1 la cells slots Q C g hP1 hS1 hL hst.2.2 hls
def hk_putL (kind slot : Nat) (K : hq_C) : hq_C := fun ls st h => hq_pla st (fun x k i r => hq_is k kind (K ls r (hq_sl h kind i slot x)))
theorem hs_putL {kind slot ci n idx : Nat} {Cn : String} {T : u_T} {tyf : Nat → FieldType} (hd : decode M.2.1 pc = .ok (.putfield idx, 3)) (ho : hq_os kind = some (ci, n)) (hc : vwCl[ci]? = some (Cn, T, n)) (hin : ∀ w ∈ u_ws Cn T n, w ∈ hq_ws) (hty : ∀ k, k < n → parseFieldDescriptor (T k).2.2.1 = some (tyf k)) (hnm : ∀ a, a < n → ∀ b, b < n → a ≠ b → (T a).2.1 ≠ (T b).2.1) (hk : slot < n) (hft : hq_ft kind slot = 1) (hfin : (T slot).2.2.2 = false) (ht : tyf slot = .long)
    (hw : Cond.fieldLink M.1.cls idx (T slot).1 (T slot).2.1 (T slot).2.2.1 ∈ hq_ws) (k : hq_S G M d (pc + 3) K) : hq_S G M d pc (hk_putL kind slot K) := by
  intro ls st h hh
  obtain ⟨x, kk, i, r, rfl, hy⟩ := hq_pla_of hh
  obtain ⟨rfl, hw9⟩ := hq_is_of hy
  have hn : narrow .long (.long x) = .long x := rfl
  have hf : fits .long (.long x) = true := rfl
  intro p l e R s m args below meth c D cy b H locs la cells slots Q C g hP hS hL hst hls
  have he := hq_wat b cy h hst.2.1
  rw [hq_ent_o b cy h i ho] at he
  refine va_put C.1 C.2.1 (C.2.2.2.2.1) hin tyf hty hnm C.2.2.2.1 C.2.2.2.2.2.1 hP (hq_wD b cy h) hS _ he hc slot hk (C.2.2.2.2.1 _ hw) (fun _ z => z) hfin (ty := .long) (by rw [← ht]; exact hty slot hk) hn hf (by rw [hq_len_map]; exact hk) hd (fun H1 locs1 hP1 hD1 hS1 => ?_)
  rw [hq_put_w (h' := hq_sl h kk i slot x) ho hst.2.1 (by unfold hq_fv; rw [hft, hq_sl_s, if_pos rfl]; rfl) (fun j hj => hq_fv_sl hj) (hq_sl_both h slot x)] at hP1
  exact k _ _ _ hw9 D cy b H1 locs1 la cells slots Q C g hP1 hS1 hL hst.2.2 hls
def hk_iald (kind len : Nat) (K : hq_C) : hq_C := fun ls st h => hq_pia st (fun x k i r => hq_is k kind (∃ j, j < len ∧ x = nI j ∧ K ls (.inl (.int (h.1 kind i j)) :: r) h))
theorem hs_iald {kind len : Nat} (hd : decode M.2.1 pc = .ok (.iaload, 1)) (ha : hq_as kind = some (1, len)) (hl : len < 2 ^ 31) (k : hq_S G M d (pc + 1) K) : hq_S G M d pc (hk_iald kind len K) := by
  intro ls st h hh
  obtain ⟨x, kk, i, r, rfl, hy⟩ := hq_pia_of hh
  obtain ⟨rfl, j, hj, rfl, hw9⟩ := hq_is_of hy
  intro p l e R s m args below meth c D cy b H locs la cells slots Q C g hP hS hL hst hls
  have he := hq_wat b cy h hst.2.1
  rw [hq_ent_a b cy h i (hq_os_as ha) ha] at he
  refine va_iald C.1 C.2.1 C.2.2.2.2.2.1 hP _ 1 he rfl (vp_in_nI hj hl) hd ?_
  rw [nI_clamp (Nat.lt_trans hj hl)]
  exact k _ _ _ hw9 D cy b H locs la cells slots Q C g hP hS hL ⟨trivial, hst.2.2⟩ hls
def hk_lald (kind len : Nat) (K : hq_C) : hq_C := fun ls st h => hq_pia st (fun x k i r => hq_is k kind (∃ j, j < len ∧ x = nI j ∧ K ls (.inl (.long (h.2 kind i j)) :: r) h))
theorem hs_lald {kind len : Nat} (hd : decode M.2.1 pc = .ok (.laload, 1)) (ha : hq_as kind = some (2, len)) (hl : len < 2 ^ 31) (k : hq_S G M d (pc + 1) K) : hq_S G M d pc (hk_lald kind len K) := by
  intro ls st h hh
  obtain ⟨x, kk, i, r, rfl, hy⟩ := hq_pia_of hh
  obtain ⟨rfl, j, hj, rfl, hw9⟩ := hq_is_of hy
  intro p l e R s m args below meth c D cy b H locs la cells slots Q C g hP hS hL hst hls
  have he := hq_wat b cy h hst.2.1
  rw [hq_ent_a b cy h i (hq_os_as ha) ha] at he
  refine va_lald C.1 C.2.1 C.2.2.2.2.2.1 hP _ 2 he rfl (vp_in_nI hj hl) hd ?_
  rw [nI_clamp (Nat.lt_trans hj hl)]
  exact k _ _ _ hw9 D cy b H locs la cells slots Q C g hP hS hL ⟨trivial, hst.2.2⟩ hls
def hk_iast (kind len : Nat) (K : hq_C) : hq_C := fun ls st h => hq_piia st (fun v x k i r => hq_is k kind (∃ j, j < len ∧ x = nI j ∧ K ls r (hq_si h kind i j v)))
theorem hs_iast {kind len : Nat} (hd : decode M.2.1 pc = .ok (.iastore, 1)) (ha : hq_as kind = some (1, len)) (hl : len < 2 ^ 31) (k : hq_S G M d (pc + 1) K) : hq_S G M d pc (hk_iast kind len K) := by
  intro ls st h hh
  obtain ⟨v, x, kk, i, r, rfl, hy⟩ := hq_piia_of hh
  obtain ⟨rfl, j, hj, rfl, hw9⟩ := hq_is_of hy
  intro p l e R s m args below meth c D cy b H locs la cells slots Q C g hP hS hL hst hls
  have he := hq_wat b cy h hst.2.2.1
  rw [hq_ent_a b cy h i (hq_os_as ha) ha] at he
  refine va_iast C.1 C.2.1 C.2.2.2.2.2.1 hP (hq_wD b cy h) hS _ 1 he rfl (vp_in_nI hj hl) hd (fun H1 locs1 hP1 hD1 hS1 => ?_)
  rw [nI_clamp (Nat.lt_trans hj hl), hq_wset (h' := hq_si h kk i j v) hst.2.2.1 ?_ (fun k' i' hn => hq_ent_c (hq_si_both h j v k' i' hn).1 (hq_si_both h j v k' i' hn).2)] at hP1
  · exact k _ _ _ hw9 D cy b H1 locs1 la cells slots Q C g hP1 hS1 hL hst.2.2.2 hls
  · rw [hq_ent_a b cy _ i (hq_os_as ha) ha]
    show (Sum.inl (cy 1, len, Sum.inl ((hq_si h kk i j v).1 kk i)) : va_E) = Sum.inl (cy 1, len, Sum.inl (upd (h.1 kk i) j v))
    have e9 : (hq_si h kk i j v).1 kk i = upd (h.1 kk i) j v := by
      funext q
      show (hq_si h kk i j v).1 kk i q = (if q = j then _ else _)
      rw [hq_si_s]
    rw [e9]
def hk_last (kind len : Nat) (K : hq_C) : hq_C := fun ls st h => hq_plia st (fun v x k i r => hq_is k kind (∃ j, j < len ∧ x = nI j ∧ K ls r (hq_sl h kind i j v)))
theorem hs_last {kind len : Nat} (hd : decode M.2.1 pc = .ok (.lastore, 1)) (ha : hq_as kind = some (2, len)) (hl : len < 2 ^ 31) (k : hq_S G M d (pc + 1) K) : hq_S G M d pc (hk_last kind len K) := by
  intro ls st h hh
  obtain ⟨v, x, kk, i, r, rfl, hy⟩ := hq_plia_of hh
  obtain ⟨rfl, j, hj, rfl, hw9⟩ := hq_is_of hy
  intro p l e R s m args below meth c D cy b H locs la cells slots Q C g hP hS hL hst hls
  have he := hq_wat b cy h hst.2.2.1
  rw [hq_ent_a b cy h i (hq_os_as ha) ha] at he
  refine va_last C.1 C.2.1 C.2.2.2.2.2.1 hP (hq_wD b cy h) hS _ 2 he rfl (vp_in_nI hj hl) hd (fun H1 locs1 hP1 hD1 hS1 => ?_)
  rw [nI_clamp (Nat.lt_trans hj hl), hq_wset (h' := hq_sl h kk i j v) hst.2.2.1 ?_ (fun k' i' hn => hq_ent_c (hq_sl_both h j v k' i' hn).1 (hq_sl_both h j v k' i' hn).2)] at hP1
  · exact k _ _ _ hw9 D cy b H1 locs1 la cells slots Q C g hP1 hS1 hL hst.2.2.2 hls
  · rw [hq_ent_a b cy _ i (hq_os_as ha) ha]
    show (Sum.inl (cy 2, len, Sum.inr (Sum.inl ((hq_sl h kk i j v).2 kk i))) : va_E) = Sum.inl (cy 2, len, Sum.inr (Sum.inl (vp_updL (h.2 kk i) j v)))
    have e9 : (hq_sl h kk i j v).2 kk i = vp_updL (h.2 kk i) j v := by
      funext q
      show (hq_sl h kk i j v).2 kk i q = (if q = j then _ else _)
      rw [hq_sl_s]
    rw [e9]
def hk_aald (kind len : Nat) (K : hq_C) : hq_C := fun ls st h => hq_pia st (fun x k i r => hq_is k kind (∃ j, j < len ∧ x = nI j ∧ K ls (.inr (hq_HR kind i j) :: r) h))
theorem hs_aald4 {kind : Nat} (hd : decode M.2.1 pc = .ok (.aaload, 1)) (hk5 : kind = 5) (k : hq_S G M d (pc + 1) K) : hq_S G M d pc (hk_aald kind 6 K) := by
  subst hk5
  intro ls st h hh
  obtain ⟨x, kk, i, r, rfl, hy⟩ := hq_pia_of hh
  obtain ⟨rfl, j, hj, rfl, hw9⟩ := hq_is_of hy
  intro p l e R s m args below meth c D cy b H locs la cells slots Q C g hP hS hL hst hls
  have he := hq_wat b cy h hst.2.1
  rw [hq_ent_a b cy h i rfl (show hq_as 5 = some (4, 6) from rfl)] at he
  refine va_aldq C.1 C.2.1 C.2.2.2.2.2.1 hP _ 4 he rfl (vp_in_nI hj (by decide)) hd ?_
  rw [nI_clamp (Nat.lt_trans hj (by decide))]
  exact k _ _ _ hw9 D cy b H locs la cells slots Q C g hP hS hL ⟨show 2 + j < 9 by omega, hst.2.2⟩ hls
theorem hs_aald5 {kind : Nat} (hd : decode M.2.1 pc = .ok (.aaload, 1)) (hk5 : kind = 2) (k : hq_S G M d (pc + 1) K) : hq_S G M d pc (hk_aald kind 10 K) := by
  subst hk5
  intro ls st h hh
  obtain ⟨x, kk, i, r, rfl, hy⟩ := hq_pia_of hh
  obtain ⟨rfl, j, hj, rfl, hw9⟩ := hq_is_of hy
  intro p l e R s m args below meth c D cy b H locs la cells slots Q C g hP hS hL hst hls
  have he := hq_wat b cy h hst.2.1
  rw [hq_ent_a b cy h i rfl (show hq_as 2 = some (5, 10) from rfl)] at he
  refine va_aldq C.1 C.2.1 C.2.2.2.2.2.1 hP _ 5 he rfl (vp_in_nI hj (by decide)) hd ?_
  rw [nI_clamp (Nat.lt_trans hj (by decide))]
  have hi : i < 9 := hst.2.1
  exact k _ _ _ hw9 D cy b H locs la cells slots Q C g hP hS hL ⟨show 11 * i + j < 99 by omega, hst.2.2⟩ hls
def hk_alen (kind len : Nat) (K : hq_C) : hq_C := fun ls st h => hq_pa st (fun k _ r => hq_is k kind (K ls (.inl (.int (nI len)) :: r) h))
theorem hq_tys_at (cy : Nat → ClassId) {k t n : Nat} (h : hq_as k = some (t, n)) : ∃ ty, (hq_tys cy)[t]? = some (cy t, ty) := by
  match k, h with
  | 2, h => cases h; exact ⟨_, rfl⟩
  | 5, h => cases h; exact ⟨_, rfl⟩
  | 6, h => cases h; exact ⟨_, rfl⟩
  | 9, h => cases h; exact ⟨_, rfl⟩
  | 10, h => cases h; exact ⟨_, rfl⟩
  | 12, h => cases h; exact ⟨_, rfl⟩
  | 14, h => cases h; exact ⟨_, rfl⟩
  | 15, h => cases h; exact ⟨_, rfl⟩
  | 16, h => cases h; exact ⟨_, rfl⟩
  | 17, h => cases h; exact ⟨_, rfl⟩
  | 18, h => cases h; exact ⟨_, rfl⟩
  | 19, h => cases h; exact ⟨_, rfl⟩
  | 20, h => cases h; exact ⟨_, rfl⟩
  | k + 21, h => cases h
theorem hs_alen {kind len t : Nat} (hd : decode M.2.1 pc = .ok (.arraylength, 1)) (ha : hq_as kind = some (t, len)) (k : hq_S G M d (pc + 1) K) : hq_S G M d pc (hk_alen kind len K) := by
  intro ls st h hh
  obtain ⟨kk, i, r, rfl, hy⟩ := hq_pa_of hh
  obtain ⟨rfl, hw9⟩ := hq_is_of hy
  intro p l e R s m args below meth c D cy b H locs la cells slots Q C g hP hS hL hst hls
  have he := hq_wat b cy h hst.1
  rw [hq_ent_a b cy h i (hq_os_as ha) ha] at he
  obtain ⟨ty, hty⟩ := hq_tys_at cy ha
  exact va_alen C.1 C.2.1 C.2.2.2.2.2.1 hP _ t he hty (v := nI len) rfl hd (k _ _ _ hw9 D cy b H locs la cells slots Q C g hP hS hL ⟨trivial, hst.2⟩ hls)
end HH
