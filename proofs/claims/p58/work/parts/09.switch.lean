def hq_swc (x : Int32) (r : List hq_V) (ls : hq_L) (h : hq_H) (KD : hq_C) (cs : List (Int32 × hq_C)) : Prop := match cs with
  | [] => KD ls r h
  | c :: cs => (x = c.1 → c.2 ls r h) ∧ (¬ x = c.1 → hq_swc x r ls h KD cs)
def hk_sw (cs : List (Int32 × hq_C)) (KD : hq_C) : hq_C := fun ls st h => hq_pi st (fun x r => hq_swc x r ls h KD cs)
def hq_swR (G : hq_G) (M : hq_M) (d pc : Nat) (ps : List (Int × Int)) (cs : List (Int32 × hq_C)) : Prop := match ps, cs with
  | [], [] => True
  | q :: ps, c :: cs => c.1.toInt = q.1 ∧ (∃ tgt : Nat, (pc : Int) + q.2 = (tgt : Int) ∧ hq_S G M d tgt c.2) ∧ hq_swR G M d pc ps cs
  | _, _ => False
theorem hq_swl {G : hq_G} {M : hq_M} {d pc : Nat} {dflt : Int} {tD : Nat} {KD : hq_C} (hD : (pc : Int) + dflt = (tD : Int)) (kD : hq_S G M d tD KD) {x : Int32} {r : List hq_V} {ls : hq_L} {h : hq_H} :
    ∀ (ps : List (Int × Int)) (cs : List (Int32 × hq_C)), hq_swR G M d pc ps cs → hq_swc x r ls h KD cs → ∃ (off : Int) (tgt : Nat), Op.lookupswitch.offset ps dflt x.toInt = off ∧ (pc : Int) + off = (tgt : Int) ∧ hq_T G M d tgt ls r h
  | [], [], _, hh => ⟨dflt, tD, rfl, hD, kD _ _ _ hh⟩
  | (a, o) :: ps, (v, K) :: cs, hR, hh => by
    obtain ⟨h1, ⟨tgt, h2, h3⟩, h4⟩ := hR
    have h1 : v.toInt = a := h1
    by_cases hx : x = v
    · refine ⟨o, tgt, ?_, h2, h3 _ _ _ (hh.1 hx)⟩
      subst hx
      simp [Op.lookupswitch.offset, h1]
    · obtain ⟨off, t2, g1, g2, g3⟩ := hq_swl hD kD ps cs h4 (hh.2 hx)
      exact ⟨off, t2, (lv_osw hx h1).trans g1, g2, g3⟩
  | [], _ :: _, hR, _ => hR.elim
  | _ :: _, [], hR, _ => hR.elim
theorem hs_lsw {G : hq_G} {M : hq_M} {d pc : Nat} {KD : hq_C} {dflt : Int} {ps : Array (Int × Int)} {len : Nat} {cs : List (Int32 × hq_C)} {tD : Nat} (hd : decode M.2.1 pc = .ok (.lookupswitch dflt ps, len)) (hp : (ps.toList.zip (ps.toList.drop 1)).all (fun (a, next) => a.1 < next.1) = true) (hD : (pc : Int) + dflt = (tD : Int)) (hR : hq_swR G M d pc ps.toList cs) (kD : hq_S G M d tD KD) : hq_S G M d pc (hk_sw cs KD) := by
  intro ls st h hh
  obtain ⟨x, r, rfl, hy⟩ := hq_pi_of hh
  obtain ⟨off, tgt, g1, g2, g3⟩ := hq_swl hD kD ps.toList cs hR hy
  intro p l e R s m args below meth c D cy b H locs la cells slots Q C g hP hS hL hst hls
  exact lv_lookup C.1 C.2.1 hd hp g1 g2 (g3 D cy b H locs la cells slots Q C g hP hS hL hst.2 hls)
def hq_twR (G : hq_G) (M : hq_M) (d pc : Nat) (lo : Int) (os : List Int) (cs : List (Int32 × hq_C)) : Prop := match os, cs with
  | [], [] => True
  | o :: os, c :: cs => c.1.toInt = lo ∧ (∃ tgt : Nat, (pc : Int) + o = (tgt : Int) ∧ hq_S G M d tgt c.2) ∧ hq_twR G M d pc (lo + 1) os cs
  | _, _ => False
theorem hq_twl {G : hq_G} {M : hq_M} {d pc : Nat} {KD : hq_C} {x : Int32} {r : List hq_V} {ls : hq_L} {h : hq_H} :
    ∀ (os : List Int) (lo : Int) (cs : List (Int32 × hq_C)), hq_twR G M d pc lo os cs → hq_swc x r ls h KD cs →
      ((x.toInt < lo ∨ lo + os.length ≤ x.toInt) ∧ KD ls r h) ∨ (lo ≤ x.toInt ∧ x.toInt < lo + os.length ∧ ∃ (off : Int) (tgt : Nat), os[(x.toInt - lo).toNat]? = some off ∧ (pc : Int) + off = (tgt : Int) ∧ hq_T G M d tgt ls r h)
  | [], lo, [], _, hh => Or.inl ⟨by simp; omega, hh⟩
  | o :: os, lo, (v, K) :: cs, hR, hh => by
    obtain ⟨h1, ⟨tgt, h2, h3⟩, h4⟩ := hR
    have h1 : v.toInt = lo := h1
    by_cases hx : x = v
    · refine Or.inr ⟨by rw [hx, h1]; omega, by rw [hx, h1, List.length_cons]; omega, o, tgt, ?_, h2, h3 _ _ _ (hh.1 hx)⟩
      rw [hx, h1, Int.sub_self]
      rfl
    · have hne : ¬ x.toInt = lo := fun z => hx (Int32.toInt_inj.mp (z.trans h1.symm))
      rcases hq_twl os (lo + 1) cs h4 (hh.2 hx) with ⟨g1, g2⟩ | ⟨g1, g2, off, t2, g3, g4, g5⟩
      · refine Or.inl ⟨?_, g2⟩
        rw [List.length_cons]
        omega
      · refine Or.inr ⟨by omega, by rw [List.length_cons]; omega, off, t2, ?_, g4, g5⟩
        rw [show (x.toInt - lo).toNat = (x.toInt - (lo + 1)).toNat + 1 by omega, List.getElem?_cons_succ]
        exact g3
  | [], _, _ :: _, hR, _ => hR.elim
  | _ :: _, _, [], hR, _ => hR.elim
theorem hs_tsw {G : hq_G} {M : hq_M} {d pc : Nat} {KD : hq_C} {dflt lo hi : Int} {os : Array Int} {len : Nat} {cs : List (Int32 × hq_C)} {tD : Nat} (hd : decode M.2.1 pc = .ok (.tableswitch dflt lo hi os, len)) (hh9 : lo + os.toList.length = hi + 1) (hD : (pc : Int) + dflt = (tD : Int)) (hR : hq_twR G M d pc lo os.toList cs) (kD : hq_S G M d tD KD) : hq_S G M d pc (hk_sw cs KD) := by
  intro ls st h hh
  obtain ⟨x, r, rfl, hy⟩ := hq_pi_of hh
  intro p l e R s m args below meth c D cy b H locs la cells slots Q C g hP hS hL hst hls
  rcases hq_twl os.toList lo cs hR hy with ⟨g1, g2⟩ | ⟨g1, g2, off, t2, g3, g4, g5⟩
  · exact lv_tableOut C.1 C.2.1 hd (by omega) hD (kD _ _ _ g2 D cy b H locs la cells slots Q C g hP hS hL hst.2 hls)
  · exact lv_tableIn C.1 C.2.1 hd (by omega) (by omega) (by rw [← Array.getElem?_toList]; exact g3) g4 (g5 D cy b H locs la cells slots Q C g hP hS hL hst.2 hls)
-- ===== branches: the side that is taken; counted loops =====
theorem hq_bt {c A B : Prop} (h : c) (a : A) : (c → A) ∧ (¬ c → B) := ⟨fun _ => a, fun n => absurd h n⟩
theorem hq_bf {c A B : Prop} (h : ¬ c) (b : B) : (c → A) ∧ (¬ c → B) := ⟨fun n => absurd n h, fun _ => b⟩
theorem hq_bc {c A B : Prop} (a : c → A) (b : ¬ c → B) : (c → A) ∧ (¬ c → B) := ⟨a, b⟩
theorem hq_nt {c A B : Prop} (h : ¬ c) (a : A) : (¬ c → A) ∧ (c → B) := ⟨fun _ => a, fun n => absurd n h⟩
theorem hq_nf {c A B : Prop} (h : c) (b : B) : (¬ c → A) ∧ (c → B) := ⟨fun n => absurd h n, fun _ => b⟩
theorem hq_nc {c A B : Prop} (a : ¬ c → A) (b : c → B) : (¬ c → A) ∧ (c → B) := ⟨a, b⟩
theorem hq_up {P : Nat → Prop} (n : Nat) (hx : P n) (hs : ∀ k, k < n → P (k + 1) → P k) : ∀ k, k ≤ n → P k := by
  intro k hk
  obtain ⟨j, rfl⟩ : ∃ j, n = k + j := ⟨n - k, by omega⟩
  clear hk
  induction j generalizing k with
  | zero => exact hx
  | succ j ih => exact hs k (by omega) (ih (k + 1) (by rwa [show k + 1 + j = k + (j + 1) by omega]) (fun q hq => hs q (by omega)))
theorem hq_dn {P : Nat → Prop} (hx : P 0) (hs : ∀ k, P k → P (k + 1)) : ∀ k, P k := fun k => by
  induction k with
  | zero => exact hx
  | succ k ih => exact hs k ih
