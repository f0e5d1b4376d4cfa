/-! ===== a method that throws an object of its own making ===== -/
def zQT (X : String) : Array Value → State → Outcome → State → Prop := fun _ st o t => ∃ x : Nat, o = .threw x ∧ st.WarmedH t.vm ∧ st.sameButNew ({ t with vm := st.vm } : State) [] 1 6 ∧ ∃ ce : Cell, t.heap[x]? = some ce ∧ ce.vm.isStatics = false ∧ st.vm.findClass X = some ce.cls
theorem z_kept {s s' : State} {k n : Nat} (h : s.sameButNew s' [] k n) : s.heap.size ≤ s'.heap.size ∧ ∀ q : Nat, q < s.heap.size → s'.heap[q]? = s.heap[q]? := by
  obtain ⟨-, h1, -, -, -, h2⟩ := h
  refine ⟨h1, fun q hq => ?_⟩
  obtain ⟨c', e1, e2, e3, e4⟩ := h2 q s.heap[q] (Array.getElem?_eq_getElem hq)
  rw [e1, Array.getElem?_eq_getElem hq]
  have e5 : c'.slots = s.heap[q].slots := by
    refine Array.ext_getElem? (fun i => e4 i (by simp))
  rw [e5] at e2
  rw [e2]
section ZU
variable {p : Program} {l : Launch} {e : Env} {R : Room} {s : State} {m : MethodId} {args : Array Value} {below : List Frame} {meth : Method} {c : Code} {H : Heap} {locs : List Loc} {cells slots : Nat} {Q : State → Prop}
variable {cc : ByteArray} {pc : Nat} {ls : Array Slot} {rest : List Value}
variable {y : MethodName} {bytes : ByteArray} {maxL nL n index : Nat} {ret : Option FieldType} {wy : List Cond} {rm : Room} {Ts : List Cond} {own C : String} {As st0 : List Value} {b : Nat} {Pc : Array Value → State → Prop}
theorem z_cThrow {X0 : String} (SF : CallFix p m c cc nL s args Ts own) (hM : MetFree l y (headSpec wy rm) Pc (fun _ _ _ _ _ => True) (zQT X0)) (cw : CallW R s args own C index y bytes maxL ret wy rm 1 6 n) (hp : PreV s H C b Pc As) (hn : As.length = n) (hsize : ls.size = nL) (hst : st0 = As.reverse ++ .ref b :: rest) (hW : (rest.map fun v => v.category).sum ≤ 8) (hdg : decode cc pc = .ok (.invokevirtual index, 3)) (hf : cells + 1 ≤ R.cells ∧ slots + 6 ≤ R.slots)
    {x : ExceptionTableEntry} (ht : c.exceptionTable.toList = [x]) (hx : covers x pc = true) (h0 : x.catchType ≠ 0) (hlink : (Cond.classLink own x.catchType X0).before args s = true) (hcast : (Cond.castable X0 X0).before args s = true)
    (kk : ∀ (xa : Nat) (H1 : Heap), H.size ≤ H1.size → (∀ q : Nat, q < H.size → H1[q]? = H[q]?) → W p l e R s m args below meth c H1 locs (cells + 1) (slots + 6) Q (F0 m x.handlerPc ls [.ref xa])) : W p l e R s m args below meth c H locs cells slots Q (F0 m pc ls st0) := by
  obtain ⟨hx1, hb, hml, hown, -⟩ := SF
  obtain ⟨⟨hrc, hrs, hfr, hlo, hws, hcw, hcode, hini, hy, hlen, hl⟩, hinst, hsel⟩ := cw
  obtain ⟨hbl, ⟨cellB, hcB, hoB, hclB⟩, hPc⟩ := hp
  intro T hT X
  obtain ⟨mk, methM, hnamed, hmethM, hstM, habM⟩ := Cond.instanceMethod_spec hinst
  obtain ⟨methM2, cM, hmethM2, hcM, -, hlM, -, -, -, hsigM⟩ := Cond.code_spec hnamed hcode
  cases hmethM.symm.trans hmethM2
  obtain ⟨c2, r2, m2, q1, q2, q3, q4, kP, hkP, hkPi⟩ := Cond.selects_spec hsel
  cases hclB.symm.trans q1
  cases (State.methodFound?_of_named hnamed hy).symm.trans q2
  cases hnamed.symm.trans q3
  have hselP : selectMethod e.platform s.vm cellB.cls mk = .method mk := by rw [Launch.admits_selectMethod X.admits]; exact q4
  obtain ⟨vm₁, X₁, hstep₁⟩ := X.invokevirtual hx1 hown hl hnamed hmethM hstM hkP hkPi hy (a := b) (cell := cellB) (by rw [hT]; exact hcB)
    (fun z h => by rw [h] at hoB; cases hoB) hselP hmethM habM hkP hkPi (g := F0 m pc ls st0) rfl (argsL := As) (rest := rest) (hn.trans (hlen _ hsigM)) hst (by rw [hb]; exact hdg)
  have hinitP : kP.init = .initialized := Cond.initialized_spec (findClass_of_methodNamed hnamed) hkP hini
  have hal1 := X₁.warmed.alike
  obtain ⟨kP2, hkP2, heP2⟩ := hal1.2.2 _ _ hkP
  have hAt : At (T.setVm vm₁) (F0 m pc ls rest).method c below := X₁.here
  have happ : (headSpec wy rm).appliesLoose y e.platform ((T.setVm vm₁).calling (F0 m pc ls rest) mk (Value.ref b :: As).toArray) = true :=
    Spec.appliesLoose_calling (g := F0 m pc ls rest) hAt (by rw [hb]; exact hdg) (X₁.named hnamed) hkP2 (by rw [heP2]; exact hinitP)
      (X₁.room_calling (g := F0 m pc ls rest) (R' := rm) (hsize.trans hml.symm) (show (T.setVm vm₁).vm.method? mk = some methM by rw [hal1.method?]; exact hmethM) hcM hfr (by rw [hlM]; show 2 * 0 + (rest.map fun v => v.category).sum + (maxL + 11) + rm.locals ≤ R.locals; omega) (by rw [hrc]; exact hf.1) (by rw [hrs]; exact hf.2))
      (atoms_intro fun w hw => hws w hw _ _ X₁.warmed)
  obtain ⟨mid, hmid⟩ := hAt.above
  have hfr2 : ((T.setVm vm₁).setTop (F0 m pc ls rest)).frames = (.java (F0 m pc ls rest) :: mid) ++ below := by rw [State.frames_setTop' _ hAt.top, hmid]; rfl
  obtain ⟨o, s₂, hsteps, -, hend, hq⟩ := Steps.callFree hM p X₁.admits X₁.cas X₁.clock (acts := []) hfr2 happ (hbl _ _ _ _ (hPc (T.setVm vm₁) hT X₁.warmed)) trivial
  obtain ⟨xa, rfl, hWq, hsame, ce, hce, hcv, hcc⟩ := hq
  rw [State.frames_setTop' _ hAt.top, X₁.tail] at hend
  obtain ⟨T', X', hWT, hsameT, hs₂⟩ := X₁.outOfThrown (g := F0 m pc ls rest) rfl (mk := mk) (a := (Value.ref b :: As).toArray) hend hWq hsame
  have hh : s₂.heap = T'.heap := by rw [hs₂]; exact Stand.throwing_heap T' _ xa
  obtain ⟨c3, c4, hc3, hc4, hasg⟩ := Cond.castable_spec hcast
  cases hc3.symm.trans hc4
  have hce2 : s.vm.findClass X0 = some ce.cls := by
    rw [← hal1.findClass]
    exact hcc
  cases hc3.symm.trans hce2
  obtain ⟨vm₂, X₂, st₂⟩ := z_catch X' xa (g := F0 m pc ls rest) rfl hown ht hx h0 hlink hce2 (by rw [← hh]; exact hce) hcv hasg
  have hkeep := z_kept hsameT
  have hk1 : H.size ≤ T'.heap.size := by rw [← hT]; exact hkeep.1
  have hk2 : ∀ q : Nat, q < H.size → T'.heap[q]? = H[q]? := fun q hq => (hkeep.2 q (by show q < T.heap.size; rw [hT]; exact hq)).trans (by show T.heap[q]? = _; rw [hT])
  obtain ⟨t, a1, b1⟩ := kk xa T'.heap hk1 hk2 (T'.setVm vm₂) rfl (by rw [List.append_nil] at X₂; exact X₂)
  exact ⟨t, hstep₁ _ fun acts => by rw [doInvoke_state]; exact (hs₂ ▸ hsteps).trans (st₂ t a1), b1⟩
end ZU
