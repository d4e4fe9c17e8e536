-- ===== the first world is the world of the contracts =====
def h0_ : hq_H := (fun _ _ _ => 0, fun _ _ _ => 0)
def w0_ : hz_W := ((0, fun _ _ => 0, 0, 0, 0, 0), none, (0, fun _ => (0, fun _ _ => 0, 0, 0, 0, 0)), (0, fun _ => 0))
theorem h0_RC : hz_RC h0_ w0_ := by
  refine ⟨⟨rfl, rfl, rfl, rfl, rfl, fun k hk => absurd hk (Nat.not_lt_zero _)⟩, ⟨Nat.zero_le _, ⟨0, by decide, rfl⟩, fun k hk => absurd hk (Nat.not_lt_zero _)⟩, rfl, ⟨Nat.zero_le _, rfl, 0, by decide, rfl, fun i hi => absurd hi (Nat.not_lt_zero _)⟩, ⟨Nat.zero_le _, fun i hi => absurd hi (Nat.not_lt_zero _)⟩, rfl, fun i hi => absurd hi (Nat.not_lt_zero _)⟩
def hc_sm (y x : va_E) : Prop := ∀ (D : va_G) (cl : List vw_C) (a : Nat) (H : Heap), va_at D cl (a, y) H → va_at D cl (a, x) H
theorem hc_sm_rf (x : va_E) : hc_sm x x := fun _ _ _ _ h => h
theorem hc_sm_q {cA : ClassId} {n : Nat} {f g : Nat → Option Nat} (h : ∀ j, j < n → f j = g j) : hc_sm (.inl (cA, n, .inr (.inr (.inr (.inr f))))) (.inl (cA, n, .inr (.inr (.inr (.inr g))))) := by
  intro D cl a H q
  have q : H[a]? = some (vp_cell cA (n, .inr (.inr (.inr (.inr f))))) := q
  show H[a]? = some (vp_cell cA (n, .inr (.inr (.inr (.inr g)))))
  rw [q, vp_cell_q, vp_cell_q]
  congr 1
  unfold arrV
  congr 1
  apply Array.ext
  · simp
  · intro i h1 h2
    simp at h1 ⊢
    rw [h i h1]
