/-! the first light heap stands in the relation -/
theorem R_0 : RR0 gI0 gJ0 := by
  have z : ∀ p k, ¬ (p = 0 ∨ p = 3 ∨ p = 13 ∨ p = 22 ∨ p = 31 ∨ p = 248) → gI0 p k = nI 0 := fun p k h => gI0_0 h k
  refine ⟨⟨0, fun _ => 0, by omega, fun i hi => by omega, ⟨z 1 1 (by decide), fun i hi => by omega⟩, rfl, fun i hi => by omega⟩, ?_, fun i hi => Or.inl ⟨z 40 i (by decide), z 279 i (by decide)⟩, ?_, ?_, ⟨0, by omega, z 134 1 (by decide), rfl, fun i hi => by omega⟩, ⟨rfl, rfl, z 141 0 (by decide)⟩⟩
  · refine ⟨(0, 0, fun _ => 0, fun _ => 0, 0, fun _ => 0, fun _ => 0, 1, 0, 0, fun _ => 0), ⟨⟨by omega, by omega, rfl, rfl, fun g hg => by omega, fun p hp => by omega⟩, ⟨by omega, fun i hi => by omega, fun i j hi => by omega⟩, by omega, by omega, by omega, by omega, fun f hf => Nat.zero_le _⟩, ⟨⟨z 4 3 (by decide), z 4 4 (by decide), fun g hg => z 7 g (by decide), fun p hp => by omega, fun g p hg => by omega⟩, ⟨z 8 2 (by decide), fun i hi => by omega⟩, rfl, rfl, rfl, fun f hf => z 11 f (by decide)⟩, ⟨⟨rfl, rfl, fun g hg => by omega, fun p hp => by omega⟩, ⟨rfl, fun i hi => by omega⟩, rfl, rfl, rfl, fun f hf => z 276 f (by decide)⟩⟩
  · exact ⟨fun _ => 0, fun _ _ => 0, fun _ _ _ => 0, fun t ht => ⟨Nat.zero_le _, fun w hw => absurd hw (Nat.not_lt_zero _)⟩, fun t ht => ⟨z _ 2 (by omega), fun w hw => absurd hw (Nat.not_lt_zero _)⟩, fun t ht => ⟨z 257 t (by decide), fun w hw => absurd hw (Nat.not_lt_zero _)⟩⟩
  · exact ⟨0, fun _ _ => 0, ⟨by omega, fun c f _ _ => Nat.zero_le _, fun c f _ _ _ => rfl⟩, ⟨z 227 1 (by decide), fun c f hc hf => z (229 + c) f (by omega)⟩, ⟨rfl, fun c f hc hf => z 275 _ (by decide)⟩⟩
/-- the world as it was made is the light heap -/
theorem sW_wN {D : va_G} {cy : Nat → ClassId} {b : Nat} {H : Heap} (h : va_P D vwCl (wN cy b 0 282) H) : va_P D vwCl (sW cy (fun q => b + q) gI0 gJ0) H := by
  intro k q hk
  by_cases hl : k < sLen
  · rw [sW_at hl] at hk
    cases hk
    exact P_wN h (by omega) (by have : sLen = 282 := rfl; omega)
  · unfold sW at hk
    simp [hl] at hk
