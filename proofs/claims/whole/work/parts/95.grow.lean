/-! the light heap as it is made -/
def gI0 : sI := fun p k => if (p = 0 ∧ k = 15) ∨ ((p = 3 ∨ p = 13 ∨ p = 22 ∨ p = 31) ∧ k = 3) ∨ (p = 248 ∧ (k = 21 ∨ k = 37)) then 1 else 0
def gJ0 : sJ := fun _ _ => 0
def gE (cy : Nat → ClassId) (b p : Nat) : va_E := sE cy (fun q => b + q) gI0 gJ0 p
/-- k cells from place lo on, as they are in the end -/
def wN (cy : Nat → ClassId) (b : Nat) : Nat → Nat → va_W
  | _, 0 => []
  | lo, k + 1 => (b + lo, gE cy b lo) :: wN cy b (lo + 1) k
theorem wN_app {cy : Nat → ClassId} {b : Nat} : ∀ {j lo k : Nat}, wN cy b lo j ++ wN cy b (lo + j) k = wN cy b lo (j + k)
  | 0, lo, k => by rw [Nat.zero_add]; rfl
  | j + 1, lo, k => by
    rw [show j + 1 + k = (j + k) + 1 by omega]
    show (b + lo, gE cy b lo) :: (wN cy b (lo + 1) j ++ wN cy b (lo + (j + 1)) k) = (b + lo, gE cy b lo) :: wN cy b (lo + 1) (j + k)
    rw [show lo + (j + 1) = lo + 1 + j by omega, wN_app]
theorem wN_at {cy : Nat → ClassId} {b : Nat} : ∀ {k lo i : Nat}, (wN cy b lo k)[i]? = if i < k then some (b + (lo + i), gE cy b (lo + i)) else none
  | 0, lo, i => by rw [if_neg (by omega)]; rfl
  | k + 1, lo, 0 => by rw [if_pos (by omega)]; rfl
  | k + 1, lo, i + 1 => by
    show (wN cy b (lo + 1) k)[i]? = _
    rw [wN_at, show lo + 1 + i = lo + (i + 1) by omega]
    by_cases z : i < k
    · rw [if_pos z, if_pos (by omega)]
    · rw [if_neg z, if_neg (by omega)]
theorem wN_P {D : va_G} {cy : Nat → ClassId} {b lo k : Nat} {H : Heap} (h : ∀ p, lo ≤ p → p < lo + k → va_at D vwCl (b + p, gE cy b p) H) : va_P D vwCl (wN cy b lo k) H := by
  intro i q hq
  rw [wN_at] at hq
  by_cases z : i < k
  · rw [if_pos z] at hq
    cases hq
    exact h (lo + i) (by omega) (by omega)
  · rw [if_neg z] at hq
    cases hq
theorem P_wN {D : va_G} {cy : Nat → ClassId} {b lo k p : Nat} {H : Heap} (h : va_P D vwCl (wN cy b lo k) H) (h1 : lo ≤ p) (h2 : p < lo + k) : va_at D vwCl (b + p, gE cy b p) H := by
  have := h (p - lo) (b + p, gE cy b p) (by rw [wN_at, if_pos (by omega), show lo + (p - lo) = p by omega])
  exact this
/-- the cells that are made come behind all others -/
theorem gGrow {D : va_G} {A : Nat → Prop} {ws new : va_W} {H H0 H1 : Heap} {locs locs1 : List Loc} (hP : va_P D vwCl ws H) (hD : va_D A ws) (hS : va_S A H0 H locs) (hA : ∀ q, H0.size ≤ q → A q) (hz : H.size ≤ H1.size) (old : ∀ q : Nat, q < H.size → H1[q]? = H[q]?) (hn : va_P D vwCl new H1) (hd : ∀ (i j : Nat) (p q : Nat × va_E), new[i]? = some p → new[j]? = some q → p.1 = q.1 → i = j) (hb : ∀ (k : Nat) (q : Nat × va_E), new[k]? = some q → H.size ≤ q.1) (hl : ∀ q ∈ locs1, q ∈ locs ∨ A q.base) : va_P D vwCl (ws ++ new) H1 ∧ va_D A (ws ++ new) ∧ va_S A H0 H1 locs1 := by
  have lt : ∀ (k : Nat) (q : Nat × va_E), ws[k]? = some q → q.1 < H.size := fun k q hk => (hP k q hk).lt
  refine ⟨(hP.kept (fun k q hk => old q.1 (lt k q hk))).app hn, ⟨fun i j p q hi hj e => ?_, fun k q hk => ?_⟩, Nat.le_trans hS.1 hz, fun q h1 h2 => (old q (Nat.lt_of_lt_of_le h1 hS.1)).trans (hS.2.1 q h1 h2), fun q hq => (hl q hq).elim (hS.2.2 q) id⟩
  · by_cases a : i < ws.length <;> by_cases c : j < ws.length
    · rw [List.getElem?_append_left a] at hi
      rw [List.getElem?_append_left c] at hj
      exact hD.1 i j p q hi hj e
    · rw [List.getElem?_append_left a] at hi
      rw [List.getElem?_append_right (by omega)] at hj
      have := lt _ _ hi
      have := hb _ _ hj
      omega
    · rw [List.getElem?_append_right (by omega)] at hi
      rw [List.getElem?_append_left c] at hj
      have := lt _ _ hj
      have := hb _ _ hi
      omega
    · rw [List.getElem?_append_right (by omega)] at hi
      rw [List.getElem?_append_right (by omega)] at hj
      have := hd _ _ p q hi hj e
      omega
  · by_cases a : k < ws.length
    · rw [List.getElem?_append_left a] at hk
      exact hD.2 k q hk
    · rw [List.getElem?_append_right (by omega)] at hk
      exact hA _ (Nat.le_trans hS.1 (hb _ _ hk))
theorem wN_dis {cy : Nat → ClassId} {b lo k : Nat} : (∀ (i j : Nat) (p q : Nat × va_E), (wN cy b lo k)[i]? = some p → (wN cy b lo k)[j]? = some q → p.1 = q.1 → i = j) ∧ ∀ (i : Nat) (q : Nat × va_E), (wN cy b lo k)[i]? = some q → b + lo ≤ q.1 := by
  have key : ∀ (i : Nat) (q : Nat × va_E), (wN cy b lo k)[i]? = some q → q.1 = b + (lo + i) := fun i q h => by
    rw [wN_at] at h
    by_cases z : i < k
    · rw [if_pos z] at h; cases h; rfl
    · rw [if_neg z] at h; cases h
  refine ⟨fun i j p q h1 h2 e => ?_, fun i q h => ?_⟩
  · have := key i p h1
    have := key j q h2
    omega
  · have := key i q h; omega
/-- the words of nest mates that are made, and of rows of references -/
def gNW (U : State) : Prop := (va_Nw (.methodLinkNest RX11 11 yX7_init RX11) U ∧ va_Nw (.methodLinkNest RX11 18 yX8_init RX11) U ∧ va_Nw (.methodLinkNest RX11 37 yX9_init RX11) U ∧ va_Nw (.methodLinkNest RX11 40 yX6_init RX11) U ∧ va_Nw (.methodLinkNest RX11 50 yX2_init RX11) U ∧ va_Nw (.methodLinkNest RX11 57 yX10_init RX11) U ∧ va_Nw (.methodLinkNest RX11 73 yX3_init RX11) U ∧ va_Nw (.methodLinkNest RX11 80 yX1_init RX11) U ∧ va_Nw (.methodLinkNest RX11 87 yX0_init RX11) U ∧ va_Nw (.methodLinkNest RX8 11 yX2_init RX11) U ∧ va_Nw (.methodLinkNest RX8 20 yX4_init RX11) U) ∧ va_AO "ClayDisc$Told" U ∧ va_AO "ClayDisc$Tongue" U ∧ (∀ ty ∈ [FieldType.int, .long], (Cond.arrayOver (.array ty)).before #[] U = true)
theorem gAO_moved {t : FieldType} {u U : State} (hvm : u.vm.Alike U.vm) (h : (Cond.arrayOver (.array t)).before #[] u = true) : (Cond.arrayOver (.array t)).before #[] U = true := by
  obtain ⟨comp, c, k, h1, h2, h3, h4, h5⟩ := arrayOverA_spec h
  obtain ⟨k', hk', he⟩ := hvm.2.2 _ _ h3
  have hb : U.vm.bare = u.vm.bare := by first | exact hvm.bare_eq | exact hvm.bare_eq.symm
  have hi := ((va_idx_bare U.vm comp).symm.trans ((congrArg (fun v : Vm => v.classes.findIdx? _) hb).trans (va_idx_bare u.vm comp))).trans h2
  have f1 : U.vm.findClass (FieldType.array t).toString = some comp := by rw [hvm.findClass]; exact h1
  have f2 : U.vm.findClass ("[" ++ (FieldType.array t).toString) = some c := by rw [hvm.findClass]; exact h5
  have hk4 : k'.kind = .array comp (.array t) := by rw [he]; exact h4
  unfold Cond.before Cond.holds
  simp only [Cond.value]
  rw [f1, Option.bind_some]
  refine (congrArg (fun o : Option Nat => (o.bind _ == some true)) hi).trans ?_
  simp [hk', hk4, f2]
theorem gNW.warm {s U : State} (hW : s.WarmedH U.vm) (h : gNW s) : gNW U := by
  obtain ⟨⟨a1, a2, a3, a4, a5, a6, a7, a8, a9, a10, a11⟩, b1, b2, b3⟩ := h
  exact ⟨⟨va_Nw.warmM hW a1, va_Nw.warmM hW a2, va_Nw.warmM hW a3, va_Nw.warmM hW a4, va_Nw.warmM hW a5, va_Nw.warmM hW a6, va_Nw.warmM hW a7, va_Nw.warmM hW a8, va_Nw.warmM hW a9, va_Nw.warmM hW a10, va_Nw.warmM hW a11⟩, va_AO.moved hW.alike b1, va_AO.moved hW.alike b2, fun ty h => gAO_moved hW.alike (b3 ty h)⟩
