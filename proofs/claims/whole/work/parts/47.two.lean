/-! ===== two worlds side by side: calls on the one leave the other ===== -/
theorem vaP_l {D : va_G} {cl : List vw_C} {w0 w1 : va_W} {H : Heap} (h : va_P D cl (w0 ++ w1) H) : va_P D cl w0 H := fun k q hk => h k q (by rw [List.getElem?_append_left (List.getElem?_eq_some_iff.mp hk).1]; exact hk)
theorem vaP_r {D : va_G} {cl : List vw_C} {w0 w1 : va_W} {H : Heap} (h : va_P D cl (w0 ++ w1) H) : va_P D cl w1 H := fun k q hk => h (w0.length + k) q (by rw [List.getElem?_append_right (Nat.le_add_right _ _), Nat.add_sub_cancel_left]; exact hk)
theorem vaD_l {A : Nat → Prop} {w0 w1 : va_W} (h : va_D A (w0 ++ w1)) : va_D A w0 := by
  have e : ∀ (k : Nat) (q : Nat × va_E), w0[k]? = some q → (w0 ++ w1)[k]? = some q := fun k q hk => by rw [List.getElem?_append_left (List.getElem?_eq_some_iff.mp hk).1]; exact hk
  exact ⟨fun i j p q hi hj => h.1 i j p q (e i p hi) (e j q hj), fun k q hk => h.2 k q (e k q hk)⟩
theorem vaD_r {A : Nat → Prop} {w0 w1 : va_W} (h : va_D A (w0 ++ w1)) : va_D A w1 := by
  have e : ∀ (k : Nat) (q : Nat × va_E), w1[k]? = some q → (w0 ++ w1)[w0.length + k]? = some q := fun k q hk => by rw [List.getElem?_append_right (Nat.le_add_right _ _), Nat.add_sub_cancel_left]; exact hk
  exact ⟨fun i j p q hi hj hpq => by have := h.1 _ _ p q (e i p hi) (e j q hj) hpq; omega, fun k q hk => h.2 _ q (e k q hk)⟩
theorem vaD_x {A : Nat → Prop} {w0 w1 : va_W} (h : va_D A (w0 ++ w1)) {i j : Nat} {p q : Nat × va_E} (hi : w0[i]? = some p) (hj : w1[j]? = some q) : p.1 ≠ q.1 := by
  intro e
  have hl := (List.getElem?_eq_some_iff.mp hi).1
  have := h.1 i (w0.length + j) p q (by rw [List.getElem?_append_left hl]; exact hi) (by rw [List.getElem?_append_right (Nat.le_add_right _ _), Nat.add_sub_cancel_left]; exact hj) e
  omega
theorem vaA_l {A : Nat → Prop} {D : va_G} {cl : List vw_C} {w0 w1 : va_W} {H : Heap} (hP : va_P D cl (w0 ++ w1) H) (hD : va_D A (w0 ++ w1)) {j : Nat} {q : Nat × va_E} (hj : w1[j]? = some q) : ¬ va_A w0 H.size q.1 := by
  rintro (⟨k, e, hk⟩ | h)
  · exact vaD_x hD hk hj rfl
  · exact absurd ((vaP_r hP j q hj).lt) (Nat.not_lt.mpr h)
theorem vaA_r {A : Nat → Prop} {D : va_G} {cl : List vw_C} {w0 w1 : va_W} {H : Heap} (hP : va_P D cl (w0 ++ w1) H) (hD : va_D A (w0 ++ w1)) {j : Nat} {q : Nat × va_E} (hj : w0[j]? = some q) : ¬ va_A w1 H.size q.1 := by
  rintro (⟨k, e, hk⟩ | h)
  · exact vaD_x hD hj hk rfl
  · exact absurd ((vaP_l hP j q hj).lt) (Nat.not_lt.mpr h)
theorem z_joinL {A : Nat → Prop} {D : va_G} {cl : List vw_C} {w0 w1 w : va_W} {H H1 : Heap} (hP : va_P D cl (w0 ++ w1) H) (hD : va_D A (w0 ++ w1)) (hk : ∀ q : Nat, q < H.size → ¬ va_A w0 H.size q → H1[q]? = H[q]?) (hF : ∀ q, va_A w0 H.size q → A q) (h1 : va_P D cl w H1) (h2 : va_D (va_A w0 H.size) w) : va_P D cl (w ++ w1) H1 ∧ va_D A (w ++ w1) := by
  refine ⟨va_P.app h1 (fun j q hj => (vaP_r hP j q hj).kept (hk q.1 ((vaP_r hP j q hj).lt) (vaA_l hP hD hj))), va_D.app (h2.weaken (fun _ _ _ h => hF _ h)) (vaD_r hD) (fun i j p q hi hj e => ?_)⟩
  exact vaA_l hP hD hj (by rw [← e]; exact h2.2 i p hi)
theorem z_joinR {A : Nat → Prop} {D : va_G} {cl : List vw_C} {w0 w1 w : va_W} {H H1 : Heap} (hP : va_P D cl (w0 ++ w1) H) (hD : va_D A (w0 ++ w1)) (hk : ∀ q : Nat, q < H.size → ¬ va_A w1 H.size q → H1[q]? = H[q]?) (hF : ∀ q, va_A w1 H.size q → A q) (h1 : va_P D cl w H1) (h2 : va_D (va_A w1 H.size) w) : va_P D cl (w0 ++ w) H1 ∧ va_D A (w0 ++ w) := by
  refine ⟨va_P.app (fun j q hj => (vaP_l hP j q hj).kept (hk q.1 ((vaP_l hP j q hj).lt) (vaA_r hP hD hj))) h1, va_D.app (vaD_l hD) (h2.weaken (fun _ _ _ h => hF _ h)) (fun i j p q hi hj e => ?_)⟩
  exact vaA_r hP hD hi (by rw [e]; exact h2.2 j q hj)
theorem vaA_F {A : Nat → Prop} {w : va_W} {H0 H : Heap} {locs : List Loc} (hD : va_D A w) (hS : va_S A H0 H locs) (hA : ∀ q, H0.size ≤ q → A q) : ∀ q, va_A w H.size q → A q := fun q h => h.elim (fun ⟨k, e, hk⟩ => hD.2 k _ hk) (fun h => hA q (Nat.le_trans hS.1 h))
section ZL
variable {p : Program} {l : Launch} {e : Env} {R : Room} {s : State} {m : MethodId} {args : Array Value} {below : List Frame} {meth : Method} {c : Code} {H : Heap} {locs : List Loc} {cells slots : Nat} {Q : State → Prop}
variable {cc : ByteArray} {pc : Nat} {ls : Array Slot} {rest : List Value} {D : va_G} {cl : List vw_C} {tys : List (ClassId × FieldType)} {w0 w1 : va_W} {A : Nat → Prop} {H0 : Heap}
variable {y : MethodName} {bytes : ByteArray} {maxL nL n index : Nat} {ret : Option FieldType} {wy : List Cond} {rm : Room} {Ts : List Cond} {own C : String} {As st0 : List Value} {b : Nat}
theorem z_l0i {S : Type} {post : Int32 → S → Prop} {wo : S → va_W} {ci : Nat} {q : vw_C} {fs : List Value} (SF : CallFix p m c cc nL s args Ts own) (hM : Met l y wy rm (zPw D cl tys w0 H.size (.ref b :: As)) (va_Qi post (zB D cl tys w0 H.size wo) (va_A w0 H.size)) 0 0 (va_A w0 H.size)) (cw : CallW R s args own C index y bytes maxL ret wy rm 0 0 n) (hK : va_K D cl tys s) (hP : va_P D cl (w0 ++ w1) H) (hD : va_D A (w0 ++ w1)) (hS : va_S A H0 H locs) (hA : ∀ q, H0.size ≤ q → A q) (q0 : Nat) (hc : cl[ci]? = some q) (he : w0[q0]? = some (b, .inr (ci, fs))) (hq : q.1 = C) (hn : As.length = n) (hsize : ls.size = nL) (hst : st0 = As.reverse ++ .ref b :: rest) (hW : (rest.map fun v => v.category).sum ≤ 8) (hdg : decode cc pc = .ok (.invokevirtual index, 3)) (hf : cells ≤ R.cells ∧ slots ≤ R.slots)
    (kk : ∀ (r : Int32) (u : S) (H1 : Heap) (locs1 : List Loc), post r u → va_P D cl (wo u ++ w1) H1 → va_D A (wo u ++ w1) → va_S A H0 H1 locs1 → W p l e R s m args below meth c H1 locs1 cells slots Q (F0 m (pc + 3) ls (.int r :: rest))) : W p l e R s m args below meth c H locs cells slots Q (F0 m pc ls st0) := by
  subst hq
  have hF := vaA_F (vaD_l hD) hS hA
  refine va_calli (va_runV SF hM cw ⟨zPw_blind, va_recv hK (vaP_l hP) hc he, fun U hU hW => ⟨rfl, by rw [hU], by rw [hU]; exact vaP_l hP, va_K.moved hW.alike hK, (vaD_l hD).weaken (fun _ _ _ _ => trivial)⟩⟩ rfl hn hsize hst (lv_room hW) hdg hf) hS (fun q _ h => hF q h) hF (fun r u t H1 locs1 ht hvm hw hB hz hk hS1 => ?_)
  obtain ⟨h1, h2, h3⟩ := hB
  rw [ht] at h1
  obtain ⟨j1, j2⟩ := z_joinL hP hD hk hF h1 h3
  exact kk r u H1 locs1 hw j1 j2 hS1
theorem z_l1i {S : Type} {post : Int32 → S → Prop} {wo : S → va_W} {ci : Nat} {q : vw_C} {fs : List Value} (SF : CallFix p m c cc nL s args Ts own) (hM : Met l y wy rm (zPw D cl tys w1 H.size (.ref b :: As)) (va_Qi post (zB D cl tys w1 H.size wo) (va_A w1 H.size)) 0 0 (va_A w1 H.size)) (cw : CallW R s args own C index y bytes maxL ret wy rm 0 0 n) (hK : va_K D cl tys s) (hP : va_P D cl (w0 ++ w1) H) (hD : va_D A (w0 ++ w1)) (hS : va_S A H0 H locs) (hA : ∀ q, H0.size ≤ q → A q) (q0 : Nat) (hc : cl[ci]? = some q) (he : w1[q0]? = some (b, .inr (ci, fs))) (hq : q.1 = C) (hn : As.length = n) (hsize : ls.size = nL) (hst : st0 = As.reverse ++ .ref b :: rest) (hW : (rest.map fun v => v.category).sum ≤ 8) (hdg : decode cc pc = .ok (.invokevirtual index, 3)) (hf : cells ≤ R.cells ∧ slots ≤ R.slots)
    (kk : ∀ (r : Int32) (u : S) (H1 : Heap) (locs1 : List Loc), post r u → va_P D cl (w0 ++ wo u) H1 → va_D A (w0 ++ wo u) → va_S A H0 H1 locs1 → W p l e R s m args below meth c H1 locs1 cells slots Q (F0 m (pc + 3) ls (.int r :: rest))) : W p l e R s m args below meth c H locs cells slots Q (F0 m pc ls st0) := by
  subst hq
  have hF := vaA_F (vaD_r hD) hS hA
  refine va_calli (va_runV SF hM cw ⟨zPw_blind, va_recv hK (vaP_r hP) hc he, fun U hU hW => ⟨rfl, by rw [hU], by rw [hU]; exact vaP_r hP, va_K.moved hW.alike hK, (vaD_r hD).weaken (fun _ _ _ _ => trivial)⟩⟩ rfl hn hsize hst (lv_room hW) hdg hf) hS (fun q _ h => hF q h) hF (fun r u t H1 locs1 ht hvm hw hB hz hk hS1 => ?_)
  obtain ⟨h1, h2, h3⟩ := hB
  rw [ht] at h1
  obtain ⟨j1, j2⟩ := z_joinR hP hD hk hF h1 h3
  exact kk r u H1 locs1 hw j1 j2 hS1
theorem z_l1l {S : Type} {post : Int64 → S → Prop} {wo : S → va_W} {ci : Nat} {q : vw_C} {fs : List Value} (SF : CallFix p m c cc nL s args Ts own) (hM : Met l y wy rm (zPw D cl tys w1 H.size (.ref b :: As)) (va_Ql post (zB D cl tys w1 H.size wo) (va_A w1 H.size)) 0 0 (va_A w1 H.size)) (cw : CallW R s args own C index y bytes maxL ret wy rm 0 0 n) (hK : va_K D cl tys s) (hP : va_P D cl (w0 ++ w1) H) (hD : va_D A (w0 ++ w1)) (hS : va_S A H0 H locs) (hA : ∀ q, H0.size ≤ q → A q) (q0 : Nat) (hc : cl[ci]? = some q) (he : w1[q0]? = some (b, .inr (ci, fs))) (hq : q.1 = C) (hn : As.length = n) (hsize : ls.size = nL) (hst : st0 = As.reverse ++ .ref b :: rest) (hW : (rest.map fun v => v.category).sum ≤ 8) (hdg : decode cc pc = .ok (.invokevirtual index, 3)) (hf : cells ≤ R.cells ∧ slots ≤ R.slots)
    (kk : ∀ (r : Int64) (u : S) (H1 : Heap) (locs1 : List Loc), post r u → va_P D cl (w0 ++ wo u) H1 → va_D A (w0 ++ wo u) → va_S A H0 H1 locs1 → W p l e R s m args below meth c H1 locs1 cells slots Q (F0 m (pc + 3) ls (.long r :: rest))) : W p l e R s m args below meth c H locs cells slots Q (F0 m pc ls st0) := by
  subst hq
  have hF := vaA_F (vaD_r hD) hS hA
  refine va_calll (va_runV SF hM cw ⟨zPw_blind, va_recv hK (vaP_r hP) hc he, fun U hU hW => ⟨rfl, by rw [hU], by rw [hU]; exact vaP_r hP, va_K.moved hW.alike hK, (vaD_r hD).weaken (fun _ _ _ _ => trivial)⟩⟩ rfl hn hsize hst (lv_room hW) hdg hf) hS (fun q _ h => hF q h) hF (fun r u t H1 locs1 ht hvm hw hB hz hk hS1 => ?_)
  obtain ⟨h1, h2, h3⟩ := hB
  rw [ht] at h1
  obtain ⟨j1, j2⟩ := z_joinR hP hD hk hF h1 h3
  exact kk r u H1 locs1 hw j1 j2 hS1
theorem z_l1v {S : Type} {post : S → Prop} {wo : S → va_W} {ci : Nat} {q : vw_C} {fs : List Value} (SF : CallFix p m c cc nL s args Ts own) (hM : Met l y wy rm (zPw D cl tys w1 H.size (.ref b :: As)) (va_Qv post (zB D cl tys w1 H.size wo) (va_A w1 H.size)) 0 0 (va_A w1 H.size)) (cw : CallW R s args own C index y bytes maxL ret wy rm 0 0 n) (hK : va_K D cl tys s) (hP : va_P D cl (w0 ++ w1) H) (hD : va_D A (w0 ++ w1)) (hS : va_S A H0 H locs) (hA : ∀ q, H0.size ≤ q → A q) (q0 : Nat) (hc : cl[ci]? = some q) (he : w1[q0]? = some (b, .inr (ci, fs))) (hq : q.1 = C) (hn : As.length = n) (hsize : ls.size = nL) (hst : st0 = As.reverse ++ .ref b :: rest) (hW : (rest.map fun v => v.category).sum ≤ 8) (hdg : decode cc pc = .ok (.invokevirtual index, 3)) (hf : cells ≤ R.cells ∧ slots ≤ R.slots)
    (kk : ∀ (u : S) (H1 : Heap) (locs1 : List Loc), post u → va_P D cl (w0 ++ wo u) H1 → va_D A (w0 ++ wo u) → va_S A H0 H1 locs1 → W p l e R s m args below meth c H1 locs1 cells slots Q (F0 m (pc + 3) ls rest)) : W p l e R s m args below meth c H locs cells slots Q (F0 m pc ls st0) := by
  subst hq
  have hF := vaA_F (vaD_r hD) hS hA
  refine va_callv (va_runV SF hM cw ⟨zPw_blind, va_recv hK (vaP_r hP) hc he, fun U hU hW => ⟨rfl, by rw [hU], by rw [hU]; exact vaP_r hP, va_K.moved hW.alike hK, (vaD_r hD).weaken (fun _ _ _ _ => trivial)⟩⟩ rfl hn hsize hst (lv_room hW) hdg hf) hS (fun q _ h => hF q h) hF (fun u t H1 locs1 ht hvm hw hB hz hk hS1 => ?_)
  obtain ⟨h1, h2, h3⟩ := hB
  rw [ht] at h1
  obtain ⟨j1, j2⟩ := z_joinR hP hD hk hF h1 h3
  exact kk u H1 locs1 hw j1 j2 hS1
/-- invokestatic of a method with an exception table -/
theorem z_runSW {hh : List (Nat × Nat × Nat × Nat)} {mc ms : Nat} {Pc : Array Value → State → Prop} {Qc : Array Value → State → Outcome → State → Prop} {free : Addr → Prop} {g : JFrame} (SF : CallFix p m c cc nL s args Ts own) (hM : Met l y wy rm Pc Qc mc ms free) (hw : GoodIn Ts wy) (hcw : Cond.codeWith y bytes maxL ret hh ∈ wy) (hrc : rm.cells = mc) (hrs : rm.slots = ms) (hR : rm.frames + 1 ≤ R.frames ∧ 8 + (maxL + 11) + rm.locals ≤ R.locals)
    (hlink : (Cond.methodLink own index y).before args s = true) (hstat : (Cond.static y).before args s = true) (hini : (Cond.initialized y.cls).before args s = true) (hd : y.cls ≠ "java/lang/invoke/MethodHandle" ∧ y.cls ≠ "java/lang/invoke/VarHandle" ∧ (parseMethodDescriptor y.desc).map (fun d => d.parameters.length) = some n) (hp : PreS s H Pc As)
    (hg : g.method = m) (hn : As.length = n) (hsize : g.locals.size = nL) (hstack : g.stack = As.reverse ++ rest) (hW : 2 * g.monitorRoom + (rest.map fun v => v.category).sum ≤ 8) (hdg : decode cc g.pc = .ok (.invokestatic index, 3)) (hf : cells + mc ≤ R.cells ∧ slots + ms ≤ R.slots) :
    va_Run p l e R s m args below meth c H locs cells slots mc ms g rest (Qc As.toArray) (free) := by
  obtain ⟨hx, hb, hml, ho, hts⟩ := SF
  have hK : Back l R p e below s args y 3 8 (PreOf R mc ms Pc) (PostOf Qc mc ms free) := va_backW (hh := hh) (bytes := bytes) (maxL := maxL) (ret := ret) hM hp.1 hrc hrs hR.1 hR.2 (pay_in hts hw) hcw (fun a' U hW => word_at hW (Or.inl (by first | rfl | simp [Cond.onTables, Cond.keeps, Cond.steady])) hini)
  obtain ⟨mk, methM, cM, hnamed, hmethM, -, -, -, -, -, -, hsigM⟩ := Cond.codeWith_spec (hts _ (hw _ hcw).1)
  have hstatic : methM.isStatic = true := Cond.static_spec hnamed hmethM hstat
  obtain ⟨kP, hkP, -⟩ := className_of_methodNamed hnamed
  have hinitP : kP.init = .initialized := Cond.initialized_spec (findClass_of_methodNamed hnamed) hkP hini
  have hlen : As.length = methM.sig.parameters.length := by
    have h2 := hd.2.2
    rw [hsigM] at h2
    exact hn.trans (Option.some.inj h2).symm
  intro T hT X
  obtain ⟨vm₁, X₁, hstep₁⟩ := X.invokestatic hx ho hlink hnamed hmethM hstatic hkP hinitP ⟨hd.1, hd.2.1⟩ (g := g) hg (argsL := As) (rest := rest) hlen hstack (by rw [hb]; exact hdg)
  obtain ⟨v, ⟨U', l2, c2, s2⟩, X', ⟨g', mk', t, L, e1, e2, hq, h1, hL, h2, h3⟩, hsteps⟩ := hK m meth c ⟨T.setVm vm₁, locs, cells, slots⟩ { g with stack := rest } (.invokestatic index) mk As.toArray X₁ hg (hsize.trans hml.symm) (by rw [hb]; exact hdg) hW (X₁.named hnamed) ⟨hf.1, hf.2, hp.2 (T.setVm vm₁) hT X₁.warmed⟩
  dsimp only [Pt.U, Pt.locs, Pt.cells, Pt.slots] at X' e1 e2 h1 h2 h3 hsteps
  subst h1; subst h2; subst h3
  exact ⟨v, (T.setVm vm₁).calling g' mk' As.toArray, t, U', L, hT, X', hL, e1, e2, hq, fun target h => hstep₁ _ fun acts => by rw [doInvoke_state]; exact hsteps.trans h⟩
/-- the law's own column -/
theorem z_l0c {S : Type} {post : Int32 → S → Prop} {wo : S → va_W} {hh : List (Nat × Nat × Nat × Nat)} {tq : Nat} {B0 : Nat → Prop} (SF : CallFix p m c cc nL s args Ts own) (hM : Met l y wy rm (zPv D cl tys w0 H.size tq As) (va_Qi post (zB D cl tys w0 H.size wo) (va_A w0 H.size)) 1 6 (va_A w0 H.size)) (hw : GoodIn Ts wy) (hcw : Cond.codeWith y bytes maxL ret hh ∈ wy) (hrc : rm.cells = 1) (hrs : rm.slots = 6) (hR : rm.frames + 1 ≤ R.frames ∧ 8 + (maxL + 11) + rm.locals ≤ R.locals)
    (hlink : (Cond.methodLink own index y).before args s = true) (hstat : (Cond.static y).before args s = true) (hini : (Cond.initialized y.cls).before args s = true) (hd : y.cls ≠ "java/lang/invoke/MethodHandle" ∧ y.cls ≠ "java/lang/invoke/VarHandle" ∧ (parseMethodDescriptor y.desc).map (fun d => d.parameters.length) = some n)
    (hK : va_K D cl tys s) (hP : va_P D cl (w0 ++ w1) H) (hD : va_D A (w0 ++ w1)) (hS : va_S A H0 H locs) (hA : ∀ q, H0.size ≤ q → A q) (hX : zX tq B0 s H) (hn : As.length = n) (hsize : ls.size = nL) (hst : st0 = As.reverse ++ rest) (hW : (rest.map fun v => v.category).sum ≤ 8) (hdg : decode cc pc = .ok (.invokestatic index, 3)) (hf : cells + 1 ≤ R.cells ∧ slots + 6 ≤ R.slots)
    (kk : ∀ (r : Int32) (u : S) (H1 : Heap) (locs1 : List Loc), post r u → va_P D cl (wo u ++ w1) H1 → va_D A (wo u ++ w1) → va_S A H0 H1 locs1 → W p l e R s m args below meth c H1 locs1 (cells + 1) (slots + 6) Q (F0 m (pc + 3) ls (.int r :: rest))) : W p l e R s m args below meth c H locs cells slots Q (F0 m pc ls st0) := by
  have hF := vaA_F (vaD_l hD) hS hA
  refine va_calli (z_runSW SF hM hw hcw hrc hrs hR hlink hstat hini hd ⟨zPv_blind, fun U hU hW => ⟨rfl, by rw [hU], by rw [hU]; exact vaP_l hP, va_K.moved hW.alike hK, (vaD_l hD).weaken (fun _ _ _ _ => trivial), by rw [hU]; exact (zX.warm hW hX).narrow (fun _ h => h.elim)⟩⟩ rfl hn hsize hst (lv_room hW) hdg hf) hS (fun q _ h => hF q h) hF (fun r u t H1 locs1 ht hvm hw hB hz hk hS1 => ?_)
  obtain ⟨h1, h2, h3⟩ := hB
  rw [ht] at h1
  obtain ⟨j1, j2⟩ := z_joinL hP hD hk hF h1 h3
  exact kk r u H1 locs1 hw j1 j2 hS1
end ZL
