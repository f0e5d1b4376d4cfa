/-! ===== PRINTED BY wip/gen/gen.py: column of the class, where it does not throw ===== -/
def wX0_column (nW : Nat) (nH : Nat) (cols : Nat → Int64) (rows : Nat → Int64) (a1 : Int32) (a2 : Int32) (a3 : Int32) (Post : (Nat → Int64) → (Nat → Int64) → Prop) : Prop :=
  ((a1 < 0 → False) ∧ (¬ a1 < 0 → (((nI nW) ≤ a1 → False) ∧ (¬ (nI nW) ≤ a1 → ((a2 < 0 → False) ∧ (¬ a2 < 0 → ((a2 < (nI nH) → ((a3 = 0 → pIn a1 nW (fun j_1 => pIn a1 nW (fun j_2 => pIn a2 nH (fun j_3 => pIn a2 nH (fun j_4 => Post (vp_updL cols j_2 ((cols j_1) &&& ((zShl 1 a2) ^^^ (-1)))) (vp_updL rows j_4 ((rows j_3) &&& ((zShl 1 a1) ^^^ (-1))))))))) ∧ (¬ a3 = 0 → pIn a1 nW (fun j_5 => pIn a1 nW (fun j_6 => pIn a2 nH (fun j_7 => pIn a2 nH (fun j_8 => Post (vp_updL cols j_6 ((cols j_5) ||| (zShl 1 a2))) (vp_updL rows j_8 ((rows j_7) ||| (zShl 1 a1)))))))))) ∧ (¬ a2 < (nI nH) → False))))))))
theorem in_X0_column : ∀ w ∈ wsX00, w ∈ wsX0_column := by decide +kernel
set_option maxHeartbeats 4000000 in
set_option maxRecDepth 100000 in
theorem mX0_column (l : Launch) {dC : Nat → ClassId} {dI : Nat → Nat → Nat} {ad : Nat → Nat} {cA : Nat → ClassId} {nW : Nat} {nH : Nat} {ff : Int32} {fd : Int32} {cols : Nat → Int64} {rows : Nat → Int64} {ends : Nat → Int64} {ecost : Nat → Int32} {ecnt : Nat → Int32} {tails : Nat → Int32} {longer : Nat → Int32} {sz : Nat} {a1 : Int32} {a2 : Int32} {a3 : Int32} {Post : (Nat → Int64) → (Nat → Int64) → Prop} (h : wX0_column nW nH cols rows a1 a2 a3 Post) : Met l yX0_column wsX0_column ({ frames := 0, cells := 0, slots := 0, locals := 0 } : Room) (zPw (dC, dI) vwCl (tX0 cA) (wX0 ad cA nW nH ff fd cols rows ends ecost ecnt tails longer) sz [.ref (ad 0), .int a1, .int a2, .int a3]) (va_Qv (S := (Nat → Int64) × (Nat → Int64)) (fun (u : (Nat → Int64) × (Nat → Int64)) => Post u.1 u.2) (zB (dC, dI) vwCl (tX0 cA) (wX0 ad cA nW nH ff fd cols rows ends ecost ecnt tails longer) sz (fun u : (Nat → Int64) × (Nat → Int64) => wX0 ad cA nW nH ff fd u.1 u.2 ends ecost ecnt tails longer)) (va_A (wX0 ad cA nW nH ff fd cols rows ends ecost ecnt tails longer) sz)) 0 0 (va_A (wX0 ad cA nW nH ff fd cols rows ends ecost ecnt tails longer) sz) := by
  refine Met.ofW (cc := cX0_column) (maxL := 4) (ret := none) (by decide) rfl ?_
  intro p e s m args below meth c s₁ B hml hv
  obtain ⟨rfl, hsz, hP, hK, hD0⟩ := hv
  have hC : zC p s m [.ref (ad 0), .int a1, .int a2, .int a3].toArray meth c cX0_column wsX0_column none 4 RX0 := ⟨B.exec, B.bytes, B.returns, hml, findClass_of_methodNamed B.named, atoms_spec (ws := wsX0_column) B.pre, B.notSynchronized⟩
  have hC0 := hC
  obtain ⟨hx, hb, hr, hml, hown, hts, hlocks⟩ := hC
  subst hsz
  have hD := hD0.self (sz := s.heap.size)
  have hA : ∀ q : Nat, s.heap.size ≤ q → va_A (wX0 ad cA nW nH ff fd cols rows ends ecost ecnt tails longer) s.heap.size q := fun q h => Or.inr h
  have hS : va_S (va_A (wX0 ad cA nW nH ff fd cols rows ends ecost ecnt tails longer) s.heap.size) s.heap s.heap [] := va_S.rf
  generalize hQe : (va_Qv (S := (Nat → Int64) × (Nat → Int64)) (fun (u : (Nat → Int64) × (Nat → Int64)) => Post u.1 u.2) (zB (dC, dI) vwCl (tX0 cA) (wX0 ad cA nW nH ff fd cols rows ends ecost ecnt tails longer) s.heap.size (fun u : (Nat → Int64) × (Nat → Int64) => wX0 ad cA nW nH ff fd u.1 u.2 ends ecost ecnt tails longer)) (va_A (wX0 ad cA nW nH ff fd cols rows ends ecost ecnt tails longer) s.heap.size)) = Qc
  generalize hAe : va_A (wX0 ad cA nW nH ff fd cols rows ends ecost ecnt tails longer) s.heap.size = A at hD hA hS hQe ⊢
  have hQ : ∀ (cols : Nat → Int64) (rows : Nat → Int64) (H : Heap) (locs : List Loc), va_P (dC, dI) vwCl (wX0 ad cA nW nH ff fd cols rows ends ecost ecnt tails longer) H → va_D A (wX0 ad cA nW nH ff fd cols rows ends ecost ecnt tails longer) → va_S A s.heap H locs → Post cols rows → ∀ t : State, t.heap = H → s.WarmedH t.vm → Qc [.ref (ad 0), .int a1, .int a2, .int a3].toArray s (.returned none) t := by
    intro cols rows H locs hP hD hS h t ht hW
    rw [← hQe]
    exact ⟨⟨(cols, rows), rfl, h, by rw [ht]; exact hP, va_K.moved hW.alike hK, hAe ▸ hD⟩, hS.F ht⟩
  clear hQe hAe
  have hl := lv_entry ([.ref (ad 0), .int a1, .int a2, .int a3]) (n := 4) (Nat.le_of_ble_eq_true rfl)
  rw [lg_entry_eq]
  generalize (lg_sl ([.ref (ad 0), .int a1, .int a2, .int a3]) ++ List.replicate (4 - (lg_sl ([.ref (ad 0), .int a1, .int a2, .int a3])).length) Slot.unset).toArray = ls at hl ⊢
  have hl : lv_has ls 4 [(0, .ref (ad 0)), (1, .int a1), (2, .int a2), (3, .int a3)] := hl
  show W p l e ({ frames := 0, cells := 0, slots := 0, locals := 0 } : Room) s m _ below meth c s.heap [] 0 0 (MQ below Qc _ s 0 0 A) (F0 m 0 ls [])
  unfold wX0_column at h
  refine lv_iload_n hx hb dX0_column_0 rfl (lv_at hl 1 rfl) ?_
  refine lv_if_lt (tgt := 24) hx hb dX0_column_1 (by decide) (fun c => ?_) (fun c => ?_)
  · have h := h.1 c
    exact h.elim
  · have h := h.2 c
    refine lv_iload_n hx hb dX0_column_4 rfl (lv_at hl 1 rfl) ?_
    refine lv_aload_n hx hb dX0_column_5 rfl (lv_at hl 0 rfl) ?_
    refine va_get (D := (dC, dI)) (ci := 1) (v := .int (nI nW)) (C := RX0) (T := TX0) (N := 11) hx hb hts in_X0_column hown hK hP 0 rfl rfl 0 (by decide) (hts (.fieldLink RX0 18 "SignCutter" "width" "I") (by decide +kernel)) (fun _ h9 => h9) rfl dX0_column_6 ?_
    refine lv_icmp_ge (tgt := 24) hx hb dX0_column_9 (by decide) (fun c => ?_) (fun c => ?_)
    · have h := h.1 c
      exact h.elim
    · have h := h.2 c
      refine lv_iload_n hx hb dX0_column_12 rfl (lv_at hl 2 rfl) ?_
      refine lv_if_lt (tgt := 24) hx hb dX0_column_13 (by decide) (fun c => ?_) (fun c => ?_)
      · have h := h.1 c
        exact h.elim
      · have h := h.2 c
        refine lv_iload_n hx hb dX0_column_16 rfl (lv_at hl 2 rfl) ?_
        refine lv_aload_n hx hb dX0_column_17 rfl (lv_at hl 0 rfl) ?_
        refine va_get (D := (dC, dI)) (ci := 1) (v := .int (nI nH)) (C := RX0) (T := TX0) (N := 11) hx hb hts in_X0_column hown hK hP 0 rfl rfl 1 (by decide) (hts (.fieldLink RX0 22 "SignCutter" "height" "I") (by decide +kernel)) (fun _ h9 => h9) rfl dX0_column_18 ?_
        refine lv_icmp_lt (tgt := 34) hx hb dX0_column_21 (by decide) (fun c => ?_) (fun c => ?_)
        · have h := h.1 c
          refine lv_iload_n hx hb dX0_column_34 rfl (lv_at hl 3 rfl) ?_
          refine lv_if_eq (tgt := 65) hx hb dX0_column_35 (by decide) (fun c => ?_) (fun c => ?_)
          · have h := h.1 c
            refine lv_aload_n hx hb dX0_column_65 rfl (lv_at hl 0 rfl) ?_
            refine va_get (D := (dC, dI)) (ci := 1) (v := .ref (ad 1)) (C := RX0) (T := TX0) (N := 11) hx hb hts in_X0_column hown hK hP 0 rfl rfl 2 (by decide) (hts (.fieldLink RX0 25 "SignCutter" "columns" "[J") (by decide +kernel)) (fun _ h9 => h9) rfl dX0_column_66 ?_
            refine lv_iload_n hx hb dX0_column_69 rfl (lv_at hl 1 rfl) ?_
            refine lv_dup2_11 hx hb dX0_column_70 rfl rfl ?_
            refine z_lald hx hb hK hP 1 0 rfl rfl h dX0_column_71 (fun j_1 h => ?_)
            refine lv_lconst (v := 1) hx hb dX0_column_72 (by decide) ?_
            refine lv_iload_n hx hb dX0_column_73 rfl (lv_at hl 2 rfl) ?_
            refine lv_lshl (v := (zShl 1 a2)) hx hb dX0_column_74 rfl ?_
            refine lv_ldc2 hx hb hown (hts (.constantLong RX0 55 (-1)) (by decide +kernel)) dX0_column_75 ?_
            refine lv_lxor hx hb dX0_column_78 ?_
            refine lv_land hx hb dX0_column_79 ?_
            refine z_last hx hb hK hP hD hS 1 0 rfl rfl h dX0_column_80 (fun j_2 H locs h hP hD hS => ?_)
            have hP : va_P (dC, dI) vwCl (wX0 ad cA nW nH ff fd (vp_updL cols j_2 ((cols j_1) &&& ((zShl 1 a2) ^^^ (-1)))) rows ends ecost ecnt tails longer) H := hP
            have hD : va_D A (wX0 ad cA nW nH ff fd (vp_updL cols j_2 ((cols j_1) &&& ((zShl 1 a2) ^^^ (-1)))) rows ends ecost ecnt tails longer) := hD
            refine lv_aload_n hx hb dX0_column_81 rfl (lv_at hl 0 rfl) ?_
            refine va_get (D := (dC, dI)) (ci := 1) (v := .ref (ad 2)) (C := RX0) (T := TX0) (N := 11) hx hb hts in_X0_column hown hK hP 0 rfl rfl 3 (by decide) (hts (.fieldLink RX0 29 "SignCutter" "rows" "[J") (by decide +kernel)) (fun _ h9 => h9) rfl dX0_column_82 ?_
            refine lv_iload_n hx hb dX0_column_85 rfl (lv_at hl 2 rfl) ?_
            refine lv_dup2_11 hx hb dX0_column_86 rfl rfl ?_
            refine z_lald hx hb hK hP 2 1 rfl rfl h dX0_column_87 (fun j_3 h => ?_)
            refine lv_lconst (v := 1) hx hb dX0_column_88 (by decide) ?_
            refine lv_iload_n hx hb dX0_column_89 rfl (lv_at hl 1 rfl) ?_
            refine lv_lshl (v := (zShl 1 a1)) hx hb dX0_column_90 rfl ?_
            refine lv_ldc2 hx hb hown (hts (.constantLong RX0 55 (-1)) (by decide +kernel)) dX0_column_91 ?_
            refine lv_lxor hx hb dX0_column_94 ?_
            refine lv_land hx hb dX0_column_95 ?_
            refine z_last hx hb hK hP hD hS 2 1 rfl rfl h dX0_column_96 (fun j_4 H locs h hP hD hS => ?_)
            have hP : va_P (dC, dI) vwCl (wX0 ad cA nW nH ff fd (vp_updL cols j_2 ((cols j_1) &&& ((zShl 1 a2) ^^^ (-1)))) (vp_updL rows j_4 ((rows j_3) &&& ((zShl 1 a1) ^^^ (-1)))) ends ecost ecnt tails longer) H := hP
            have hD : va_D A (wX0 ad cA nW nH ff fd (vp_updL cols j_2 ((cols j_1) &&& ((zShl 1 a2) ^^^ (-1)))) (vp_updL rows j_4 ((rows j_3) &&& ((zShl 1 a1) ^^^ (-1)))) ends ecost ecnt tails longer) := hD
            exact W.vret hx hb hr (hQ _ _ _ _ hP hD hS h) hS.2.2 dX0_column_97
          · have h := h.2 c
            refine lv_aload_n hx hb dX0_column_38 rfl (lv_at hl 0 rfl) ?_
            refine va_get (D := (dC, dI)) (ci := 1) (v := .ref (ad 1)) (C := RX0) (T := TX0) (N := 11) hx hb hts in_X0_column hown hK hP 0 rfl rfl 2 (by decide) (hts (.fieldLink RX0 25 "SignCutter" "columns" "[J") (by decide +kernel)) (fun _ h9 => h9) rfl dX0_column_39 ?_
            refine lv_iload_n hx hb dX0_column_42 rfl (lv_at hl 1 rfl) ?_
            refine lv_dup2_11 hx hb dX0_column_43 rfl rfl ?_
            refine z_lald hx hb hK hP 1 0 rfl rfl h dX0_column_44 (fun j_5 h => ?_)
            refine lv_lconst (v := 1) hx hb dX0_column_45 (by decide) ?_
            refine lv_iload_n hx hb dX0_column_46 rfl (lv_at hl 2 rfl) ?_
            refine lv_lshl (v := (zShl 1 a2)) hx hb dX0_column_47 rfl ?_
            refine lv_lor hx hb dX0_column_48 ?_
            refine z_last hx hb hK hP hD hS 1 0 rfl rfl h dX0_column_49 (fun j_6 H locs h hP hD hS => ?_)
            have hP : va_P (dC, dI) vwCl (wX0 ad cA nW nH ff fd (vp_updL cols j_6 ((cols j_5) ||| (zShl 1 a2))) rows ends ecost ecnt tails longer) H := hP
            have hD : va_D A (wX0 ad cA nW nH ff fd (vp_updL cols j_6 ((cols j_5) ||| (zShl 1 a2))) rows ends ecost ecnt tails longer) := hD
            refine lv_aload_n hx hb dX0_column_50 rfl (lv_at hl 0 rfl) ?_
            refine va_get (D := (dC, dI)) (ci := 1) (v := .ref (ad 2)) (C := RX0) (T := TX0) (N := 11) hx hb hts in_X0_column hown hK hP 0 rfl rfl 3 (by decide) (hts (.fieldLink RX0 29 "SignCutter" "rows" "[J") (by decide +kernel)) (fun _ h9 => h9) rfl dX0_column_51 ?_
            refine lv_iload_n hx hb dX0_column_54 rfl (lv_at hl 2 rfl) ?_
            refine lv_dup2_11 hx hb dX0_column_55 rfl rfl ?_
            refine z_lald hx hb hK hP 2 1 rfl rfl h dX0_column_56 (fun j_7 h => ?_)
            refine lv_lconst (v := 1) hx hb dX0_column_57 (by decide) ?_
            refine lv_iload_n hx hb dX0_column_58 rfl (lv_at hl 1 rfl) ?_
            refine lv_lshl (v := (zShl 1 a1)) hx hb dX0_column_59 rfl ?_
            refine lv_lor hx hb dX0_column_60 ?_
            refine z_last hx hb hK hP hD hS 2 1 rfl rfl h dX0_column_61 (fun j_8 H locs h hP hD hS => ?_)
            have hP : va_P (dC, dI) vwCl (wX0 ad cA nW nH ff fd (vp_updL cols j_6 ((cols j_5) ||| (zShl 1 a2))) (vp_updL rows j_8 ((rows j_7) ||| (zShl 1 a1))) ends ecost ecnt tails longer) H := hP
            have hD : va_D A (wX0 ad cA nW nH ff fd (vp_updL cols j_6 ((cols j_5) ||| (zShl 1 a2))) (vp_updL rows j_8 ((rows j_7) ||| (zShl 1 a1))) ends ecost ecnt tails longer) := hD
            refine lv_goto (tgt := 97) hx hb dX0_column_62 (by decide) ?_
            exact W.vret hx hb hr (hQ _ _ _ _ hP hD hS h) hS.2.2 dX0_column_97
        · have h := h.2 c
          exact h.elim
