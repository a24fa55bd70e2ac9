/-! contracts of <init> -/
def gPre (D : va_G) (cy : Nat → ClassId) (b q n : Nat) (fs0 : List Value) (U : State) : Prop := U.heap.size = b + q + 1 ∧ va_at D vwCl (b + q, .inr (n, fs0)) U.heap ∧ va_K D vwCl (sTys cy) U ∧ gNW U ∧ sNW U
def gQ (D : va_G) (cy : Nat → ClassId) (b q k : Nat) : Array Value → State → Outcome → State → Prop := va_Qv (fun _ : Unit => True) (fun _ t => t.heap.size = b + q + k ∧ va_P D vwCl (wN cy b q k) t.heap) (fun a => b + q ≤ a)
def gMet (l : Launch) (D : va_G) (cy : Nat → ClassId) (b q n k : Nat) (fs0 : List Value) (av : List Value) (y : MethodName) (cc : ByteArray) (nL fr lc mc ms : Nat) : Prop := Met l y (Cond.code y cc nL none :: lw_good) { frames := fr, cells := mc, slots := ms, locals := lc } (va_Pc (.ref (b + q) :: av) (gPre D cy b q n fs0)) (gQ D cy b q k) mc ms (fun a => b + q ≤ a)
def gCall (X : sX) (cy : Nat → ClassId) (b q n k : Nat) (fs0 : List Value) (av : List Value) (y : MethodName) (cc : ByteArray) (nL fr lc mc ms : Nat) : Prop := match X with
  | (_, l, _, _, _, _, _, _, _, _, D, _, _, _, _, _, _, _) => gMet l D cy b q n k fs0 av y cc nL fr lc mc ms
def gRt (X : sX) (cy : Nat → ClassId) (b q k mc ms : Nat) : Prop := match X with
  | (_, _, _, _, s, _, args, below, meth, _, D, _, _, A, H0, Q, _, _) => meth.sig.returnType = none ∧ meth.locks = false ∧ H0 = s.heap ∧ A = (fun a => b + q ≤ a) ∧ Q = MQ below (gQ D cy b q k) args s mc ms A
theorem gMet_of {l : Launch} {D : va_G} {cy : Nat → ClassId} {b q n k : Nat} {fs0 av : List Value} {y : MethodName} {cc : ByteArray} {nL fr lc mc ms : Nat} (hy : plainFor y = true) (hi : y.name = "<init>") (hn : (lg_sl (.ref (b + q) :: av)).length ≤ nL)
    (kk : ∀ X : sX, gOK X cy cc y.cls nL fr lc mc ms → gIn X → gB X (b + q + 1) → gRt X cy b q k mc ms → (∀ av2 y2 cc2 nL2 fr2 lc2 mc2 ms2 q2 n2 k2 fs2, gMet l D cy b q2 n2 k2 fs2 av2 y2 cc2 nL2 fr2 lc2 mc2 ms2 → gCall X cy b q2 n2 k2 fs2 av2 y2 cc2 nL2 fr2 lc2 mc2 ms2) → gG X nL 0 (lv_args 0 (.ref (b + q) :: av)) [] [(b + q, .inr (n, fs0))] (b + q + 1) 0 0) : gMet l D cy b q n k fs0 av y cc nL fr lc mc ms := by
  refine sMetW (cc := cc) (maxL := nL) (ret := none) hy rfl ?_
  intro p e s m args below meth c s₁ B hml hv
  obtain ⟨rfl, hsz, hat, hK, hN, hN2⟩ := hv
  have hts := atoms_spec (ws := Cond.code y cc nL none :: lw_good) B.pre
  have hl := lv_entry (.ref (b + q) :: av) (n := nL) hn
  have hP : va_P D vwCl [(b + q, .inr (n, fs0))] s.heap := fun i x hx => by
    cases i with
    | zero => cases hx; exact hat
    | succ i => cases hx
  have one : ∀ (i : Nat) (x : Nat × va_E), ([(b + q, (.inr (n, fs0) : va_E))] : va_W)[i]? = some x → i = 0 ∧ x.1 = b + q := fun i x hx => by
    cases i with
    | zero => cases hx; exact ⟨rfl, rfl⟩
    | succ i => cases hx
  have hD : va_D (fun a => b + q ≤ a) [(b + q, (.inr (n, fs0) : va_E))] := ⟨fun i j x z hx hz _ => by rw [(one i x hx).1, (one j z hz).1], fun i x hx => by show b + q ≤ x.1; rw [(one i x hx).2]; exact Nat.le_refl _⟩
  rw [lg_entry_eq]
  exact kk (p, l, e, _, s, m, _, below, meth, c, D, cy, fun x => b + x, fun a => b + q ≤ a, s.heap, _, 0, 0) ⟨B.exec, B.bytes, hml, findClass_of_methodNamed B.named, fun w hw => hts w (List.mem_cons_of_mem _ hw), hK, hN, hN2, fun a ha => by rw [hsz] at ha; show b + q ≤ a; omega, ⟨Nat.le_refl _, Nat.le_refl _, Nat.le_refl _, Nat.le_refl _⟩, rfl, rfl⟩ ((name_of_methodNamed B.named B.method).1.trans hi) hsz ⟨B.returns, B.notSynchronized, rfl, rfl, rfl⟩ (fun _ _ _ _ _ _ _ _ _ _ _ _ h => h) s.heap [] _ hsz hP hD va_S.rf hl
section GINIT
variable {X : sX} {cy : Nat → ClassId} {cc : ByteArray} {own : String} {nL fr lc rc rs pc sz ce sl b : Nat} {lo : List (Nat × Value)} {st : List Value} {ws : va_W}
theorem a_ret {q j n : Nat} {fs : List Value} (h : gOK X cy cc own nL fr lc rc rs) (hr : gRt X cy b q (j + 1) ce sl) (hsz : b + q + (j + 1) = sz) (he : gE cy b q = .inr (n, fs)) (d : decode cc pc = .ok (.return_, 1)) : gG X nL pc lo [] ((b + q, .inr (n, fs)) :: wN cy b (q + 1) j) sz ce sl := by
  obtain ⟨p, l, e, R, s, m, args, below, meth, c, D, cy', ad, A, H0, Q, ce0, sl0⟩ := X
  obtain ⟨hx, hb, hml, hown, hts, hK, hN1, hN2, hA, hRm, rfl, rfl⟩ := h
  obtain ⟨hr1, hr2, -, rfl, rfl⟩ := hr
  intro H locs ls hz hP hD hS hl
  have hP2 : va_P D vwCl (wN cy' b q (j + 1)) H := by
    show va_P D vwCl ((b + q, gE cy' b q) :: wN cy' b (q + 1) j) H
    rw [he]; exact hP
  exact W.vret hx hb hr1 (fun t ht hW => ⟨⟨(), rfl, trivial, by rw [ht, hz, hsz], by rw [ht]; exact hP2⟩, hS.F ht⟩) hS.2.2 d hr2
/-- behind a call of <init> -/
theorem gAfter {p : Program} {l : Launch} {e : Env} {R : Room} {s : State} {m : MethodId} {args a : Array Value} {below : List Frame} {meth : Method} {c : Code} {D : va_G} {A : Nat → Prop} {H0 H : Heap} {Q : State → Prop} {locs : List Loc} {ls : Array Slot} {st0 : List Value} {q n k mc ms : Nat} {fs0 : List Value} (hA : ∀ x, H0.size ≤ x → A x) (hq : H0.size ≤ b + q) (hz : H.size = b + q + 1) (hP : va_P D vwCl (ws ++ [(b + q, .inr (n, fs0))]) H) (hD : va_D A (ws ++ [(b + q, .inr (n, fs0))])) (hS : va_S A H0 H locs) (hk : 1 ≤ k)
    (hr : va_Run p l e R s m args below meth c H locs ce sl mc ms (F0 m pc ls st0) st (gQ D cy b q k a) (fun x => b + q ≤ x))
    (kk : ∀ (H1 : Heap) (locs1 : List Loc), H1.size = b + q + k → va_P D vwCl (ws ++ wN cy b q k) H1 → va_D A (ws ++ wN cy b q k) → va_S A H0 H1 locs1 → W p l e R s m args below meth c H1 locs1 (ce + mc) (sl + ms) Q (F0 m (pc + 3) ls st)) : W p l e R s m args below meth c H locs ce sl Q (F0 m pc ls st0) := by
  refine va_callv hr hS (fun x _ h => hA x (Nat.le_trans hq h)) (fun x h => hA x (Nat.le_trans hq h)) (fun u t H1 locs1 ht _ _ hb hle ho hS1 => ?_)
  rw [ht] at hb
  have nw : (ws ++ [(b + q, (.inr (n, fs0) : va_E))])[ws.length]? = some (b + q, .inr (n, fs0)) := by rw [List.getElem?_append_right (Nat.le_refl _), Nat.sub_self]; rfl
  have up : ∀ (i : Nat) (x : Nat × va_E), ws[i]? = some x → i < ws.length ∧ (ws ++ [(b + q, (.inr (n, fs0) : va_E))])[i]? = some x := fun i x hx => by
    have hi := (List.getElem?_eq_some_iff.mp hx).1
    exact ⟨hi, by rw [List.getElem?_append_left hi]; exact hx⟩
  have lt : ∀ (i : Nat) (x : Nat × va_E), ws[i]? = some x → x.1 < b + q := fun i x hx => by
    obtain ⟨hi, hx2⟩ := up i x hx
    have h1 := (hP i x hx2).lt
    have h2 : x.1 ≠ b + q := fun e => by
      have := hD.1 i ws.length x _ hx2 nw e
      omega
    omega
  have hP0 : va_P D vwCl ws H := fun i x hx => hP i x (up i x hx).2
  have hP1 : va_P D vwCl ws H1 := hP0.kept (fun i x hx => ho x.1 (by have := lt i x hx; omega) (by have := lt i x hx; omega))
  refine kk H1 locs1 hb.1 (hP1.app hb.2) ⟨fun i j x z hi hj ez => ?_, fun i x hx => ?_⟩ hS1
  · by_cases a1 : i < ws.length <;> by_cases c1 : j < ws.length
    · rw [List.getElem?_append_left a1] at hi
      rw [List.getElem?_append_left c1] at hj
      exact hD.1 i j x z (up i x hi).2 (up j z hj).2 ez
    · rw [List.getElem?_append_left a1] at hi
      rw [List.getElem?_append_right (by omega)] at hj
      have := lt _ _ hi
      have := wN_dis.2 _ _ hj
      omega
    · rw [List.getElem?_append_right (by omega)] at hi
      rw [List.getElem?_append_left c1] at hj
      have := lt _ _ hj
      have := wN_dis.2 _ _ hi
      omega
    · rw [List.getElem?_append_right (by omega)] at hi
      rw [List.getElem?_append_right (by omega)] at hj
      have := wN_dis.1 _ _ x z hi hj ez
      omega
  · by_cases a1 : i < ws.length
    · rw [List.getElem?_append_left a1] at hx
      exact hD.2 i x (up i x hx).2
    · rw [List.getElem?_append_right (by omega)] at hx
      exact hA _ (Nat.le_trans hq (wN_dis.2 _ _ hx))
theorem gBlind {D : va_G} {av : List Value} {q n : Nat} {fs0 : List Value} : FrameBlind (va_Pc av (gPre D cy b q n fs0)) := by
  intro a U g mk z
  obtain ⟨q0, q1, q2, q3, ⟨⟨a1, a2, a3, a4, a5, a6, a7, a8, a9, a10, a11⟩, b1, b2, b3⟩, q5⟩ := z
  exact ⟨q0, q1, q2, va_K.moved (u := U) (U := U.calling g mk a) (Vm.Alike.refl U.vm) q3, ⟨⟨va_Nw.same rfl rfl a1, va_Nw.same rfl rfl a2, va_Nw.same rfl rfl a3, va_Nw.same rfl rfl a4, va_Nw.same rfl rfl a5, va_Nw.same rfl rfl a6, va_Nw.same rfl rfl a7, va_Nw.same rfl rfl a8, va_Nw.same rfl rfl a9, va_Nw.same rfl rfl a10, va_Nw.same rfl rfl a11⟩, va_AO.moved (Vm.Alike.refl U.vm) b1, va_AO.moved (Vm.Alike.refl U.vm) b2, fun ty h => gAO_moved (Vm.Alike.refl U.vm) (b3 ty h)⟩, ⟨va_Nw.same rfl rfl q5.1, va_Nw.same rfl rfl q5.2.1, va_Nw.same rfl rfl q5.2.2⟩⟩
/-- <init> of a nest mate (N), of another (P) -/
theorem a_initN {q n k mc ms nLy fry lcy ix lw j base pz : Nat} {fs0 : List Value} {y : MethodName} {cy1 : ByteArray} {hd : Nat × va_E} {T0 : va_W} (host : String) (As : List Value) (h : gOK X cy cc own nL fr lc rc rs) (hbs : gB X base) (hM : gCall X cy b q n k fs0 As y cy1 nLy fry lcy mc ms) (hj : lw + j = q) (hsz : b + q + 1 = sz) (hpz : b + q = pz) (hbq : base ≤ b + q) (hk : 1 ≤ k) (hw : sMw y cy1 nLy none As.length) (hi : y.name = "<init>" ∧ Cond.instanceMethod y ∈ lw_good) (hlk : ∀ U, gNW U → va_Nw (.methodLinkNest own ix y host) U) (hR : (fry + 1 ≤ fr ∧ 8 + (nLy + 11) + lcy ≤ lc) ∧ ce + mc ≤ rc ∧ sl + ms ≤ rs) (hst : (st.map fun v => v.category).sum ≤ 8) (d : decode cc pc = .ok (.invokespecial ix, 3)) (kk : gG X nL (pc + 3) lo st (hd :: (T0 ++ wN cy b lw (j + k))) (b + q + k) (ce + mc) (sl + ms)) : gG X nL pc lo (As.reverse ++ .ref (b + q) :: st) ((hd :: (T0 ++ wN cy b lw j)) ++ [(pz, .inr (n, fs0))]) sz ce sl := by
  obtain ⟨p, l, e, R, s, m, args, below, meth, c, D, cy', ad, A, H0, Q, ce0, sl0⟩ := X
  obtain ⟨hx, hb, hml, hown, hts, hK, hN1, hN2, hA, hRm, rfl, rfl⟩ := h
  subst hj; subst hsz; subst hpz
  have hbs : s.heap.size = base := hbs
  obtain ⟨hcode, hini, hm1, hm2, hpar⟩ := hw
  intro H locs ls hz hP hD hS hl
  refine gAfter (cy := cy') (mc := mc) (ms := ms) (a := (Value.ref (b + (lw + j)) :: As).toArray) (ws := hd :: (T0 ++ wN cy' b lw j)) (st := st) hA (by omega) hz hP hD hS hk ?_ (fun H1 locs1 z1 P1 D1 S1 => ?_)
  · exact va_runIN (b := b + (lw + j)) (As := As) (rest := st) (n := As.length) ⟨hx, hb, hml, hown, hts⟩ hM ⟨va_cnB As.length hts (sGood hcode) rfl rfl rfl (hlk s hN1) (hts _ hini) ⟨hm1, hm2, hpar⟩ ⟨Nat.le_trans hR.1.1 hRm.1, Nat.le_trans hR.1.2 hRm.2.1⟩, hi.1, hts _ hi.2⟩ ⟨gBlind, fun U hU hW => ⟨rfl, by rw [hU]; exact hz, by rw [hU]; exact hP (hd :: (T0 ++ wN cy' b lw j)).length _ (by rw [List.getElem?_append_right (Nat.le_refl _), Nat.sub_self]; rfl), va_K.moved hW.alike hK, hN1.warm hW, hN2.warm hW⟩⟩ rfl rfl hl.1 rfl (lv_room hst) d ⟨by omega, by omega⟩
  · rw [List.cons_append, List.append_assoc, wN_app] at P1 D1
    exact kk H1 locs1 ls z1 P1 D1 S1 hl
theorem a_initP {q n k mc ms nLy fry lcy ix lw j base pz : Nat} {fs0 : List Value} {y : MethodName} {cy1 : ByteArray} {hd : Nat × va_E} {T0 : va_W} (As : List Value) (h : gOK X cy cc own nL fr lc rc rs) (hbs : gB X base) (hM : gCall X cy b q n k fs0 As y cy1 nLy fry lcy mc ms) (hj : lw + j = q) (hsz : b + q + 1 = sz) (hpz : b + q = pz) (hbq : base ≤ b + q) (hk : 1 ≤ k) (hw : sMw y cy1 nLy none As.length) (hi : y.name = "<init>" ∧ Cond.instanceMethod y ∈ lw_good) (hlk : Cond.methodLink own ix y ∈ lw_good) (hR : (fry + 1 ≤ fr ∧ 8 + (nLy + 11) + lcy ≤ lc) ∧ ce + mc ≤ rc ∧ sl + ms ≤ rs) (hst : (st.map fun v => v.category).sum ≤ 8) (d : decode cc pc = .ok (.invokespecial ix, 3)) (kk : gG X nL (pc + 3) lo st (hd :: (T0 ++ wN cy b lw (j + k))) (b + q + k) (ce + mc) (sl + ms)) : gG X nL pc lo (As.reverse ++ .ref (b + q) :: st) ((hd :: (T0 ++ wN cy b lw j)) ++ [(pz, .inr (n, fs0))]) sz ce sl := by
  obtain ⟨p, l, e, R, s, m, args, below, meth, c, D, cy', ad, A, H0, Q, ce0, sl0⟩ := X
  obtain ⟨hx, hb, hml, hown, hts, hK, hN1, hN2, hA, hRm, rfl, rfl⟩ := h
  subst hj; subst hsz; subst hpz
  have hbs : s.heap.size = base := hbs
  obtain ⟨hcode, hini, hm1, hm2, hpar⟩ := hw
  intro H locs ls hz hP hD hS hl
  refine gAfter (cy := cy') (mc := mc) (ms := ms) (a := (Value.ref (b + (lw + j)) :: As).toArray) (ws := hd :: (T0 ++ wN cy' b lw j)) (st := st) hA (by omega) hz hP hD hS hk ?_ (fun H1 locs1 z1 P1 D1 S1 => ?_)
  · exact va_runI (b := b + (lw + j)) (As := As) (rest := st) (n := As.length) ⟨hx, hb, hml, hown, hts⟩ hM ⟨callB_of As.length hts (sGood hcode) rfl rfl rfl (hts _ hini) (hts _ hlk) ⟨hm1, hm2, hpar⟩ ⟨Nat.le_trans hR.1.1 hRm.1, Nat.le_trans hR.1.2 hRm.2.1⟩, hi.1, hts _ hi.2⟩ ⟨gBlind, fun U hU hW => ⟨rfl, by rw [hU]; exact hz, by rw [hU]; exact hP (hd :: (T0 ++ wN cy' b lw j)).length _ (by rw [List.getElem?_append_right (Nat.le_refl _), Nat.sub_self]; rfl), va_K.moved hW.alike hK, hN1.warm hW, hN2.warm hW⟩⟩ rfl rfl hl.1 rfl (lv_room hst) d ⟨by omega, by omega⟩
  · rw [List.cons_append, List.append_assoc, wN_app] at P1 D1
    exact kk H1 locs1 ls z1 P1 D1 S1 hl
end GINIT
theorem gI0_0 {p : Nat} (h : ¬ (p = 0 ∨ p = 3 ∨ p = 13 ∨ p = 22 ∨ p = 31 ∨ p = 248)) (k : Nat) : gI0 p k = 0 := by
  unfold gI0
  rw [if_neg (by omega)]
/-- a row of references, read otherwise -/
theorem a_conv {X : sX} {nL pc sz ce sl a n : Nat} {c : ClassId} {f g : Nat → Option Nat} {lo : List (Nat × Value)} {st : List Value} {ws ws' : va_W} (q0 : Nat) (hq : ws[q0]? = some (a, .inl (c, n, .inr (.inr (.inr (.inr f)))))) (hfg : ∀ j, j < n → f j = g j) (hw' : ws.set q0 (a, .inl (c, n, .inr (.inr (.inr (.inr g))))) = ws') (kk : gG X nL pc lo st ws' sz ce sl) : gG X nL pc lo st ws sz ce sl := by
  obtain ⟨p, l, e, R, s, m, args, below, meth, c0, D, cy', ad, A, H0, Q, ce0, sl0⟩ := X
  subst hw'
  intro H locs ls hz hP hD hS hl
  have hlt := (List.getElem?_eq_some_iff.mp hq).1
  have ec : vp_cell c (n, .inr (.inr (.inr (.inr f)))) = vp_cell c (n, .inr (.inr (.inr (.inr g)))) := by
    rw [vp_cell_q, vp_cell_q]
    unfold arrV
    congr 2
    funext j
    show va_rf (f j) = va_rf (g j)
    rw [hfg j j.2]
  refine kk H locs ls hz (fun k x hx => ?_) (hD.set hq) hS hl
  rw [List.getElem?_set] at hx
  by_cases z : q0 = k
  · rw [if_pos z, if_pos hlt] at hx
    cases hx
    have h1 : H[a]? = some (vp_cell c (n, .inr (.inr (.inr (.inr f))))) := hP q0 _ hq
    show H[a]? = some (vp_cell c (n, .inr (.inr (.inr (.inr g)))))
    rw [← ec]; exact h1
  · rw [if_neg z] at hx
    exact hP k x hx
