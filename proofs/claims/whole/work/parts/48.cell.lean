/-! ===== the law's cell; the sizes of a new object ===== -/
def cellV (L : Nat) (xs : Nat → Int32) (k : Nat) : Int32 := if k < L then xs k else 0
def zPx (b L : Nat) (xs : Nat → Int32) (av : List Value) : Array Value → State → Prop := va_Pc av (fun U => va_X b L xs U U.heap)
theorem zPx_blind {b L : Nat} {xs : Nat → Int32} {av : List Value} : FrameBlind (zPx b L xs av) := fun a U g mk q => by
  obtain ⟨q0, qX⟩ := q
  exact ⟨q0, va_X.moved (u := U) (U := U.calling g mk a) (Vm.Alike.refl U.vm) qX⟩
set_option maxHeartbeats 4000000 in
set_option maxRecDepth 100000 in
theorem mL_cell (l : Launch) {b L k : Nat} {xs : Nat → Int32} (hL : L < 2 ^ 31) (hk : k < 2 ^ 31) : Met l yL_cell wsL_cell ({ frames := 0, cells := 0, slots := 0, locals := 0 } : Room) (zPx b L xs [.ref b, .int (nI k)]) (vp_Si (fun r => r = cellV L xs k)) 0 0 (fun _ => False) := by
  refine Met.ofW (cc := cL_cell) (maxL := 2) (ret := some .int) (by decide) rfl ?_
  intro p e s m args below meth c s₁ B hml hv
  obtain ⟨rfl, hX⟩ := hv
  have hx := B.exec
  have hb := B.bytes
  have hr := B.returns
  have hlocks := B.notSynchronized
  have hbl : b < s.heap.size := (Array.getElem?_eq_some_iff.mp hX.choose_spec.1).1
  have hS : va_S (fun _ => False) s.heap s.heap [] := va_S.rf
  have hl := lv_entry ([.ref b, .int (nI k)]) (n := 2) (Nat.le_of_ble_eq_true rfl)
  rw [lg_entry_eq]
  generalize (lg_sl ([.ref b, .int (nI k)]) ++ List.replicate (2 - (lg_sl ([.ref b, .int (nI k)])).length) Slot.unset).toArray = ls at hl ⊢
  have hl : lv_has ls 2 [(0, .ref b), (1, .int (nI k))] := hl
  refine lv_iload_n hx hb dL_cell_0 rfl (lv_at hl 1 rfl) ?_
  refine lv_aload_n hx hb dL_cell_1 rfl (lv_at hl 0 rfl) ?_
  refine va_slen hx hb hX hbl (fun h => h) hS dL_cell_2 ?_
  refine lv_icmp_ge (tgt := 12) hx hb dL_cell_3 (by decide) (fun c1 => ?_) (fun c1 => ?_)
  · have c2 : L ≤ k := (nI_leI hL hk).mp c1
    refine lv_iconst (v := 0) hx hb dL_cell_12 (by decide) ?_
    exact W.iret (v := 0) hx hb hr (fun t ht hW => ⟨_, rfl, by unfold cellV; rw [if_neg (by omega)], ht⟩) (fun q hq => absurd hq List.not_mem_nil) dL_cell_13
  · have c2 : k < L := Nat.not_le.mp (fun q => c1 ((nI_leI hL hk).mpr q))
    refine lv_aload_n hx hb dL_cell_6 rfl (lv_at hl 0 rfl) ?_
    refine lv_iload_n hx hb dL_cell_7 rfl (lv_at hl 1 rfl) ?_
    refine va_sld hx hb hX hbl (fun h => h) hS (z_in rfl c2 hk) dL_cell_8 ?_
    refine lv_goto (tgt := 13) hx hb dL_cell_9 (by decide) ?_
    exact W.iret (v := xs (nI k).toNatClampNeg) hx hb hr (fun t ht hW => ⟨_, rfl, by unfold cellV; rw [if_pos c2, nI_clamp hk], ht⟩) (fun q hq => absurd hq List.not_mem_nil) dL_cell_13
/-- the size of a new object out of what is asked -/
theorem clN_ex (k : Nat) (hk : 1 ≤ k) (hk2 : k < 2 ^ 31) (w : Int32) : ∃ n : Nat, 1 ≤ n ∧ n ≤ k ∧ zMax 1 (zMin (nI k) w) = nI n ∧ (if w < 1 then 1 else if nI k < w then nI k else w) = nI n := by
  by_cases c1 : w < 1
  · refine ⟨1, Nat.le_refl 1, hk, ?_, by rw [if_pos c1]; rfl⟩
    unfold zMax zMin
    have c2 : w < nI k := by
      rw [Int32.lt_iff_toInt_lt] at c1 ⊢
      rw [nI_toInt hk2]
      have : (1 : Int32).toInt = 1 := rfl
      omega
    rw [if_pos c2, if_neg (by
      rw [Int32.lt_iff_toInt_lt] at c1 ⊢
      omega)]
    rfl
  · by_cases c2 : nI k < w
    · refine ⟨k, hk, Nat.le_refl k, ?_, by rw [if_neg c1, if_pos c2]⟩
      unfold zMax zMin
      rw [if_neg (show ¬ w < nI k by
        rw [Int32.lt_iff_toInt_lt] at c2 ⊢
        omega)]
      by_cases c3 : 1 < nI k
      · rw [if_pos c3]
      · rw [if_neg c3]
        have : ¬ 1 < k := fun q => c3 (nI_lt q hk2)
        have e : k = 1 := by omega
        rw [e]
        rfl
    · have c3 : ¬ w < 0 := by
        rw [Int32.lt_iff_toInt_lt] at c1 ⊢
        have h1 : (1 : Int32).toInt = 1 := rfl
        have h0 : (0 : Int32).toInt = 0 := rfl
        omega
      obtain ⟨j, hj, rfl⟩ := nI_of c3
      have d1 : 1 ≤ j := by
        have : ¬ nI j < nI 1 := c1
        rw [nI_ltI hj (by decide)] at this
        omega
      have d2 : j ≤ k := by
        rw [nI_ltI hk2 hj] at c2
        omega
      refine ⟨j, d1, d2, ?_, by rw [if_neg c1, if_neg c2]⟩
      unfold zMax zMin
      have e1 : (if nI j < nI k then nI j else nI k) = nI j := by
        by_cases q : j = k
        · rw [q]
          exact ite_self _
        · rw [if_pos (nI_lt (by omega) hk2)]
      rw [e1]
      by_cases q : j = 1
      · rw [q]
        decide
      · rw [if_pos (show (1 : Int32) < nI j from nI_lt (a := 1) (by omega) hj)]
