/-! ===== the law's own column: 1 where the class throws, else 0 ===== -/
def zPv (D : va_G) (cl : List vw_C) (tys : List (ClassId × FieldType)) (w : va_W) (sz tq : Nat) (av : List Value) : Array Value → State → Prop := va_Pc av (fun U => U.heap.size = sz ∧ va_P D cl w U.heap ∧ va_K D cl tys U ∧ va_D (fun _ => True) w ∧ zX tq (fun _ => False) U U.heap)
theorem zPv_blind {D : va_G} {cl : List vw_C} {tys : List (ClassId × FieldType)} {w : va_W} {sz tq : Nat} {av : List Value} : FrameBlind (zPv D cl tys w sz tq av) := fun a U g mk q => by
  obtain ⟨q0, q1, qP, qK, qD, qX⟩ := q
  exact ⟨q0, q1, qP, va_K.moved (u := U) (U := U.calling g mk a) (Vm.Alike.refl U.vm) qK, qD, zX.same (u := U) (U := U.calling g mk a) rfl qX⟩
def wsLT : List Cond := wsL_column ++ (zOwnG ++ [Cond.classLink RL 13 RJx00060])
def rmL : Room := { frames := 8, cells := 1, slots := 6, locals := 118 }
theorem zgL_T : GoodIn wsLT zOwnG := fun w hw => ⟨List.mem_append_right _ (List.mem_append_left _ hw), (zOwnG_in w hw).2⟩
theorem zgL_0 : GoodIn wsLT (wsV RL 7 RX0 yX0_column wsX0_column) := fun w hw => ⟨List.mem_append_left _ (gL_column_X0_column w hw).1, (gL_column_X0_column w hw).2⟩
theorem zgL_1 : GoodIn wsLT (wsV RL 7 RX0 yX0_column wsX0T) := by
  show GoodIn wsLT (_ ++ (wsX0_column ++ zOwnG))
  rw [← List.append_assoc]
  exact goodIn_app zgL_0 zgL_T
def wL_column (nW nH : Nat) (cols rows : Nat → Int64) (a1 a2 a3 : Int32) (Post : Int32 → (Nat → Int64) → (Nat → Int64) → Prop) : Prop := (inS nW nH a1 a2 → wX0_column nW nH cols rows a1 a2 a3 (Post 0)) ∧ (¬ inS nW nH a1 a2 → Post 1 cols rows)
set_option maxHeartbeats 4000000 in
set_option maxRecDepth 100000 in
theorem mL_column {l : Launch} (hfl : l.flags = pinnedFlags ++ [noTraceFlag]) {dC : Nat → ClassId} {dI : Nat → Nat → Nat} {ad : Nat → Nat} {cA : Nat → ClassId} {nW : Nat} {nH : Nat} {ff : Int32} {fd : Int32} {cols : Nat → Int64} {rows : Nat → Int64} {ends : Nat → Int64} {ecost : Nat → Int32} {ecnt : Nat → Int32} {tails : Nat → Int32} {longer : Nat → Int32} {sz tq : Nat} {a1 : Int32} {a2 : Int32} {a3 : Int32} {Post : Int32 → (Nat → Int64) → (Nat → Int64) → Prop} (h : wL_column nW nH cols rows a1 a2 a3 Post) :
    Met l yL_column wsLT rmL (zPv (dC, dI) vwCl (tX0 cA) (wX0 ad cA nW nH ff fd cols rows ends ecost ecnt tails longer) sz tq [.ref (ad 0), .int a1, .int a2, .int a3])
      (va_Qi (S := (Nat → Int64) × (Nat → Int64)) (fun (r : Int32) (u : (Nat → Int64) × (Nat → Int64)) => Post r u.1 u.2) (zB (dC, dI) vwCl (tX0 cA) (wX0 ad cA nW nH ff fd cols rows ends ecost ecnt tails longer) sz (fun u : (Nat → Int64) × (Nat → Int64) => wX0 ad cA nW nH ff fd u.1 u.2 ends ecost ecnt tails longer)) (va_A (wX0 ad cA nW nH ff fd cols rows ends ecost ecnt tails longer) sz)) 1 6 (va_A (wX0 ad cA nW nH ff fd cols rows ends ecost ecnt tails longer) sz) := by
  refine va_MetW (cc := cL_column) (maxL := 5) (ret := some .int) (hh := [(0, 7, 10, 13)]) (by decide) rfl ?_
  intro p e s m args below meth c s₁ B hml hv
  obtain ⟨rfl, hsz, hP, hK, hD0, hX⟩ := hv
  have hx := B.exec
  have hb := B.bytes
  have hr := B.returns
  have hts := atoms_spec (ws := wsLT) B.pre
  have hown : s.vm.findClass RL = some m.cls := findClass_of_methodNamed B.named
  have hlocks := B.notSynchronized
  subst hsz
  have hD := hD0.self (sz := s.heap.size)
  have htab : ∃ x : ExceptionTableEntry, c.exceptionTable.toList = [x] ∧ x.startPc = 0 ∧ x.endPc = 7 ∧ x.handlerPc = 10 ∧ x.catchType = 13 := by
    obtain ⟨m9, meth9, c9, hn9, hm9, hc9, -, -, ht9, -⟩ := Cond.codeWith_spec (hts _ List.mem_cons_self)
    cases B.named.symm.trans hn9
    cases B.method.symm.trans hm9
    cases (Stand.of_body B).code.symm.trans hc9
    cases hq : c.exceptionTable.toList with
    | nil => rw [hq] at ht9; cases ht9
    | cons x t =>
      rw [hq] at ht9
      cases t with
      | nil =>
        simp only [List.map_cons, List.map_nil, List.cons.injEq, Prod.mk.injEq, and_true] at ht9
        exact ⟨x, rfl, ht9.1, ht9.2.1, ht9.2.2.1, ht9.2.2.2⟩
      | cons y t => simp at ht9
  obtain ⟨x, hx1, hx2, hx3, hx4, hx5⟩ := htab
  have hl := lv_entry ([.ref (ad 0), .int a1, .int a2, .int a3]) (n := 5) (Nat.le_of_ble_eq_true rfl)
  rw [lg_entry_eq]
  generalize (lg_sl ([.ref (ad 0), .int a1, .int a2, .int a3]) ++ List.replicate (5 - (lg_sl ([.ref (ad 0), .int a1, .int a2, .int a3])).length) Slot.unset).toArray = ls at hl ⊢
  have hl : lv_has ls 5 [(0, .ref (ad 0)), (1, .int a1), (2, .int a2), (3, .int a3)] := hl
  refine lv_aload_n hx hb dL_column_0 rfl (lv_at hl 0 rfl) ?_
  refine lv_iload_n hx hb dL_column_1 rfl (lv_at hl 1 rfl) ?_
  refine lv_iload_n hx hb dL_column_2 rfl (lv_at hl 2 rfl) ?_
  refine lv_iload_n hx hb dL_column_3 rfl (lv_at hl 3 rfl) ?_
  by_cases hin : inS nW nH a1 a2
  · have h := h.1 hin
    have hA : ∀ q : Nat, s.heap.size ≤ q → va_A (wX0 ad cA nW nH ff fd cols rows ends ecost ecnt tails longer) s.heap.size q := fun q h => Or.inr h
    have hS : va_S (va_A (wX0 ad cA nW nH ff fd cols rows ends ecost ecnt tails longer) s.heap.size) s.heap s.heap [] := va_S.rf
    refine z_cVv (ci := 1) (As := [.int a1, .int a2, .int a3]) (rest := []) ⟨hx, hb, hml, hown, hts⟩ (mX0_column l h) (cwV 3 hts zgL_0 rfl rfl rfl (by decide +kernel) ⟨Nat.le_of_ble_eq_true rfl, Nat.le_of_ble_eq_true rfl⟩) hK hP hD hS hA 0 rfl rfl rfl rfl hl.1 rfl (Nat.le_of_ble_eq_true rfl) dL_column_4 ⟨Nat.le_of_ble_eq_true rfl, Nat.le_of_ble_eq_true rfl⟩ (fun u H locs h hP hD hS => ?_)
    refine lv_goto (tgt := 14) hx hb dL_column_7 (by decide) ?_
    refine lv_iconst (v := 0) hx hb dL_column_14 (by decide) ?_
    refine W.widen (k := 1) (n := 6) (by decide) (by decide) ?_
    exact W.iret (v := 0) hx hb hr (fun t ht hW => ⟨⟨0, u, rfl, h, by rw [ht]; exact hP, va_K.moved hW.alike hK, hD⟩, hS.F ht⟩) hS.2.2 dL_column_15
  · have h := h.2 hin
    refine z_cThrow (X0 := RJx00060) (As := [.int a1, .int a2, .int a3]) (rest := []) (x := x) ⟨hx, hb, hml, hown, hts⟩ (mX0_columnT hfl hin) (cwV 3 hts zgL_1 rfl rfl rfl (by decide +kernel) ⟨Nat.le_of_ble_eq_true rfl, Nat.le_of_ble_eq_true rfl⟩) ⟨zPt_blind, va_recv (q := (RX0, TX0, 11)) (q0 := 0) (ci := 1) hK hP rfl rfl, fun U hU hW => ⟨rfl, by rw [hU]; exact hP, va_K.moved hW.alike hK, by rw [hU]; exact zX.warm hW hX⟩⟩ rfl hl.1 rfl (Nat.le_of_ble_eq_true rfl) dL_column_4 ⟨Nat.le_of_ble_eq_true rfl, Nat.le_of_ble_eq_true rfl⟩
      hx1 (by simp [covers, hx2, hx3]) (by rw [hx5]; decide) (by rw [hx5]; exact hts _ (List.mem_append_right _ (List.mem_append_right _ (List.mem_singleton.mpr rfl)))) (va_tabs rfl rfl (hX.2.2.1 (.castable RJx00060 RJx00060) (by simp [zDW]))) (fun xa H1 hz hk => ?_)
    rw [hx4]
    have hS : va_S (va_A (wX0 ad cA nW nH ff fd cols rows ends ecost ecnt tails longer) s.heap.size) s.heap H1 [] := ⟨hz, fun q h1 _ => hk q h1, fun q h => by cases h⟩
    have hP : va_P (dC, dI) vwCl (wX0 ad cA nW nH ff fd cols rows ends ecost ecnt tails longer) H1 := hP.kept (fun k q hq => hk q.1 ((hP k q hq).lt))
    refine lv_astore (lv' := [(4, .ref xa), (0, .ref (ad 0)), (1, .int a1), (2, .int a2), (3, .int a3)]) hx hb dL_column_10 hl (by decide) rfl (fun ls hl => ?_)
    refine lv_iconst (v := 1) hx hb dL_column_12 (by decide) ?_
    exact W.iret (v := 1) hx hb hr (fun t ht hW => ⟨⟨1, (cols, rows), rfl, h, by rw [ht]; exact hP, va_K.moved hW.alike hK, hD⟩, hS.F ht⟩) hS.2.2 dL_column_13
