/-! ===== column of the class, where it throws ===== -/
def zPt (D : va_G) (cl : List vw_C) (tys : List (ClassId × FieldType)) (w : va_W) (tq : Nat) (av : List Value) : Array Value → State → Prop := va_Pc av (fun U => va_P D cl w U.heap ∧ va_K D cl tys U ∧ zX tq (fun _ => False) U U.heap)
theorem zPt_blind {D : va_G} {cl : List vw_C} {tys : List (ClassId × FieldType)} {w : va_W} {tq : Nat} {av : List Value} : FrameBlind (zPt D cl tys w tq av) := fun a U g mk q => by
  obtain ⟨q0, qP, qK, qX⟩ := q
  exact ⟨q0, qP, va_K.moved (u := U) (U := U.calling g mk a) (Vm.Alike.refl U.vm) qK, zX.same (u := U) (U := U.calling g mk a) rfl qX⟩
def wsX0T : List Cond := wsX0_column ++ zOwnG
def rmT : Room := { frames := 7, cells := 1, slots := 6, locals := 95 }
set_option maxHeartbeats 4000000 in
set_option maxRecDepth 100000 in
theorem mX0_columnT {l : Launch} (hfl : l.flags = pinnedFlags ++ [noTraceFlag]) {dC : Nat → ClassId} {dI : Nat → Nat → Nat} {ad : Nat → Nat} {cA : Nat → ClassId} {nW : Nat} {nH : Nat} {ff : Int32} {fd : Int32} {cols : Nat → Int64} {rows : Nat → Int64} {ends : Nat → Int64} {ecost : Nat → Int32} {ecnt : Nat → Int32} {tails : Nat → Int32} {longer : Nat → Int32} {tq : Nat} {a1 : Int32} {a2 : Int32} {a3 : Int32} (hbad : ¬ inS nW nH a1 a2) :
    MetFree l yX0_column (headSpec wsX0T rmT) (zPt (dC, dI) vwCl (tX0 cA) (wX0 ad cA nW nH ff fd cols rows ends ecost ecnt tails longer) tq [.ref (ad 0), .int a1, .int a2, .int a3]) (fun _ _ _ _ _ => True) (zQT RJx00060) := by
  refine MetFree.of_bodyS (code := cX0_column) (maxLocals := 4) (ret := none) (by decide) ?_ ?_
  · intro args s m h hn
    obtain ⟨meth, c, h1, h2, h3, h4, h5, h6, -, -⟩ := Cond.code_spec hn (atoms_spec (ws := wsX0T) h (.code yX0_column cX0_column 4 none) (List.mem_append_left _ List.mem_cons_self))
    exact ⟨meth, c, h1, h2, h3, h4, h5, h6⟩
  · intro p e s m args below meth c s₁ B hml hv _
    obtain ⟨rfl, hP, hK, hX⟩ := hv
    have hh0 : s₁.heap = s.heap := by rw [B.state]; rfl
    have htsT := atoms_spec (ws := wsX0T) B.pre
    have hts : ∀ w ∈ wsX0_column, w.before _ s = true := fun w hw => htsT w (List.mem_append_left _ hw)
    have htsO : ∀ w ∈ zOwn, w.before _ s = true := zOwn_all (fun w hw => htsT w (List.mem_append_right _ hw)) hX
    have hx := B.exec
    have hb := B.bytes
    have hown : s.vm.findClass RX0 = some m.cls := findClass_of_methodNamed B.named
    have hlocks := B.notSynchronized
    have hnoh : c.exceptionTable.isEmpty = true := BodyLoose.noHandlers B (hts (.code yX0_column cX0_column 4 none) List.mem_cons_self)
    have hfc : s.vm.findClass RJx00060 = some (dC 0) := (hK.1 0 _ rfl).2.1
    have hthrow : ∀ ls : Array Slot, ls.size = 4 → W p l e rmT s m [.ref (ad 0), .int a1, .int a2, .int a3].toArray below meth c s.heap [] 0 0 (fun t => ∃ o, t.status = .running ∧ Ended t below o ∧ zQT RJx00060 [.ref (ad 0), .int a1, .int a2, .int a3].toArray s o t) (F0 m 24 ls []) := by
      intro ls hsz
      refine W.newcK hx hb hown (hts (.classLink RX0 48 RJx00060) (by decide +kernel)) (hts (.instantiable RJx00060 6) (by decide +kernel)) (hts (.initialized RJx00060) (by decide +kernel)) rfl dX0_column_24 (Nat.le_of_ble_eq_true rfl) (Nat.le_of_ble_eq_true rfl) hfc rfl fun H1 kC hkC e1 z1 o1 => ?_
      refine W.eq (g2 := F0 m 27 ls [.ref s.heap.size]) rfl ?_
      refine lv_dup hx hb dX0_column_27 rfl ?_
      refine va_ldcS hx hb hown hX.2.2.2 dX0_column_28 ?_
      intro T hT X
      obtain ⟨U, g1, g2, g3, g4, g5, ce, g6, g7⟩ := X.ctorThrowS (own := RX0) (cls := RJx00060) (names := zNm) (ic := 52) hx (D.Launch.traces_off hfl X.admits) hown (by decide +kernel) (by decide +kernel) htsO (fun x hx => absurd hx List.not_mem_nil)
        (a := s.heap.size) hfc hkC (by rw [hT]; exact e1) (Nat.le_refl _) (msg := .ref tq) rfl (g := F0 m 30 ls [.ref tq, .ref s.heap.size, .ref s.heap.size]) rfl (hsz.trans hml.symm) rfl rfl (rest := []) rfl (by rw [hb]; exact dX0_column_30) (by rw [hb]; exact dX0_column_33)
        (fun x hx => by
          have h0 : c.exceptionTable = #[] := Array.isEmpty_iff.mp hnoh
          rw [h0] at hx
          cases hx) (by decide) (Nat.le_of_ble_eq_true rfl) hlocks
      exact ⟨U, g1, .threw s.heap.size, g2, g3, s.heap.size, rfl, g4, g5, ce, g6, by rw [g7.vm]; rfl, g7.cls⟩
    have K : W p l e rmT s m [.ref (ad 0), .int a1, .int a2, .int a3].toArray below meth c s.heap [] 0 0 (fun t => ∃ o, t.status = .running ∧ Ended t below o ∧ zQT RJx00060 [.ref (ad 0), .int a1, .int a2, .int a3].toArray s o t) (entryFrame m ([.ref (ad 0), .int a1, .int a2, .int a3] : List Value).toArray 4) := by
      have hl := lv_entry ([.ref (ad 0), .int a1, .int a2, .int a3]) (n := 4) (Nat.le_of_ble_eq_true rfl)
      rw [lg_entry_eq]
      generalize (lg_sl ([.ref (ad 0), .int a1, .int a2, .int a3]) ++ List.replicate (4 - (lg_sl ([.ref (ad 0), .int a1, .int a2, .int a3])).length) Slot.unset).toArray = ls at hl ⊢
      have hl : lv_has ls 4 [(0, .ref (ad 0)), (1, .int a1), (2, .int a2), (3, .int a3)] := hl
      refine lv_iload_n hx hb dX0_column_0 rfl (lv_at hl 1 rfl) ?_
      refine lv_if_lt (tgt := 24) hx hb dX0_column_1 (by decide) (fun c1 => hthrow ls hl.1) (fun c1 => ?_)
      refine lv_iload_n hx hb dX0_column_4 rfl (lv_at hl 1 rfl) ?_
      refine lv_aload_n hx hb dX0_column_5 rfl (lv_at hl 0 rfl) ?_
      refine va_get (D := (dC, dI)) (ci := 1) (v := .int (nI nW)) (C := RX0) (T := TX0) (N := 11) hx hb hts in_X0_column hown hK hP 0 rfl rfl 0 (by decide) (hts (.fieldLink RX0 18 "SignCutter" "width" "I") (by decide +kernel)) (fun _ h9 => h9) rfl dX0_column_6 ?_
      refine lv_icmp_ge (tgt := 24) hx hb dX0_column_9 (by decide) (fun c2 => hthrow ls hl.1) (fun c2 => ?_)
      refine lv_iload_n hx hb dX0_column_12 rfl (lv_at hl 2 rfl) ?_
      refine lv_if_lt (tgt := 24) hx hb dX0_column_13 (by decide) (fun c3 => hthrow ls hl.1) (fun c3 => ?_)
      refine lv_iload_n hx hb dX0_column_16 rfl (lv_at hl 2 rfl) ?_
      refine lv_aload_n hx hb dX0_column_17 rfl (lv_at hl 0 rfl) ?_
      refine va_get (D := (dC, dI)) (ci := 1) (v := .int (nI nH)) (C := RX0) (T := TX0) (N := 11) hx hb hts in_X0_column hown hK hP 0 rfl rfl 1 (by decide) (hts (.fieldLink RX0 22 "SignCutter" "height" "I") (by decide +kernel)) (fun _ h9 => h9) rfl dX0_column_18 ?_
      exact lv_icmp_lt (tgt := 34) hx hb dX0_column_21 (by decide) (fun c4 => absurd ⟨c1, c2, c3, c4⟩ hbad) (fun c4 => hthrow ls hl.1)
    obtain ⟨t, a1, o, b1, b2, b3⟩ := K s₁ hh0 (Stand.of_body B)
    exact ⟨t, o, a1, b1, b2, b3⟩
