/-! ===== PRINTED BY wip/gen/gen.py: the machine does what the predicates say ===== -/
theorem in_X0_base : ∀ w ∈ wsX00, w ∈ wsX0_base := by decide +kernel
set_option maxHeartbeats 4000000 in
set_option maxRecDepth 100000 in
theorem mX0_base (l : Launch) {dC : Nat → ClassId} {dI : Nat → Nat → Nat} {ad : Nat → Nat} {cA : Nat → ClassId} {nW : Nat} {nH : Nat} {ff : Int32} {fd : Int32} {cols : Nat → Int64} {rows : Nat → Int64} {ends : Nat → Int64} {ecost : Nat → Int32} {ecnt : Nat → Int32} {tails : Nat → Int32} {longer : Nat → Int32} {a1 : Int32} {Post : Int32 → Prop} (h : wX0_base nW nH cols rows a1 Post) : Met l yX0_base wsX0_base ({ frames := 5, cells := 0, slots := 0, locals := 106 } : Room) (zPc (dC, dI) vwCl (tX0 cA) (wX0 ad cA nW nH ff fd cols rows ends ecost ecnt tails longer) [.ref (ad 0), .int a1]) (vp_Si Post) 0 0 (fun _ => False) := by
  refine Met.ofW (cc := cX0_base) (maxL := 2) (ret := (some .int)) (by decide) rfl ?_
  intro p e s m args below meth c s₁ B hml hv
  obtain ⟨rfl, hP, hK⟩ := hv
  have hC : zC p s m [.ref (ad 0), .int a1].toArray meth c cX0_base wsX0_base (some .int) 2 RX0 := ⟨B.exec, B.bytes, B.returns, hml, findClass_of_methodNamed B.named, atoms_spec (ws := wsX0_base) B.pre, B.notSynchronized⟩
  have hC0 := hC
  obtain ⟨hx, hb, hr, hml, hown, hts, hlocks⟩ := hC
  have hl := lv_entry ([.ref (ad 0), .int a1]) (n := 2) (Nat.le_of_ble_eq_true rfl)
  rw [lg_entry_eq]
  generalize (lg_sl ([.ref (ad 0), .int a1]) ++ List.replicate (2 - (lg_sl ([.ref (ad 0), .int a1])).length) Slot.unset).toArray = ls at hl ⊢
  have hl : lv_has ls 2 [(0, .ref (ad 0)), (1, .int a1)] := hl
  unfold wX0_base at h
  refine lv_aload_n hx hb dX0_base_0 rfl (lv_at hl 0 rfl) ?_
  refine z_cVi (ci := 1) (As := []) (rest := []) ⟨hx, hb, hml, hown, hts⟩ (mX0_firstDarkColumn l h) (cwV 0 hts gX0_base_X0_firstDarkColumn rfl rfl rfl (by decide +kernel) ⟨Nat.le_of_ble_eq_true rfl, Nat.le_of_ble_eq_true rfl⟩) hK hP 0 rfl rfl rfl rfl hl.1 rfl (Nat.le_of_ble_eq_true rfl) dX0_base_1 ⟨Nat.le_of_ble_eq_true rfl, Nat.le_of_ble_eq_true rfl⟩ (fun r_1 h => ?_)
  refine lv_iconst (v := (-1)) hx hb dX0_base_4 (by decide) ?_
  refine lv_icmp_ne (tgt := 10) hx hb dX0_base_5 (by decide) (fun c => ?_) (fun c => ?_)
  · have h := h.2 c
    refine lv_iload_n hx hb dX0_base_10 rfl (lv_at hl 1 rfl) ?_
    rcases z_sw6 a1 with c | c | c | c | c | c | c
    · have h := h.1 c
      refine lv_tableIn (off := 37) (tgt := 48) hx hb dX0_base_11 (by rw [c]; decide) (by rw [c]; decide) (by rw [c]; rfl) (by decide) ?_
      refine lv_aload_n hx hb dX0_base_48 rfl (lv_at hl 0 rfl) ?_
      refine z_cVi (ci := 1) (As := []) (rest := []) ⟨hx, hb, hml, hown, hts⟩ (mX0_firstStrongRow l h) (cwV 0 hts gX0_base_X0_firstStrongRow rfl rfl rfl (by decide +kernel) ⟨Nat.le_of_ble_eq_true rfl, Nat.le_of_ble_eq_true rfl⟩) hK hP 0 rfl rfl rfl rfl hl.1 rfl (Nat.le_of_ble_eq_true rfl) dX0_base_49 ⟨Nat.le_of_ble_eq_true rfl, Nat.le_of_ble_eq_true rfl⟩ (fun r_2 h => ?_)
      exact W.iret (v := r_2) hx hb hr (fun t ht hW => ⟨_, rfl, h, ht⟩) (fun q hq => absurd hq List.not_mem_nil) dX0_base_52
    · have h := h.2.1 c
      refine lv_tableIn (off := 42) (tgt := 53) hx hb dX0_base_11 (by rw [c]; decide) (by rw [c]; decide) (by rw [c]; rfl) (by decide) ?_
      refine lv_aload_n hx hb dX0_base_53 rfl (lv_at hl 0 rfl) ?_
      refine z_cVi (ci := 1) (As := []) (rest := []) ⟨hx, hb, hml, hown, hts⟩ (mX0_lastStrongRow l h) (cwV 0 hts gX0_base_X0_lastStrongRow rfl rfl rfl (by decide +kernel) ⟨Nat.le_of_ble_eq_true rfl, Nat.le_of_ble_eq_true rfl⟩) hK hP 0 rfl rfl rfl rfl hl.1 rfl (Nat.le_of_ble_eq_true rfl) dX0_base_54 ⟨Nat.le_of_ble_eq_true rfl, Nat.le_of_ble_eq_true rfl⟩ (fun r_3 h => ?_)
      exact W.iret (v := r_3) hx hb hr (fun t ht hW => ⟨_, rfl, h, ht⟩) (fun q hq => absurd hq List.not_mem_nil) dX0_base_57
    · have h := h.2.2.1 c
      refine lv_tableIn (off := 47) (tgt := 58) hx hb dX0_base_11 (by rw [c]; decide) (by rw [c]; decide) (by rw [c]; rfl) (by decide) ?_
      refine lv_aload_n hx hb dX0_base_58 rfl (lv_at hl 0 rfl) ?_
      refine z_cVi (ci := 1) (As := []) (rest := []) ⟨hx, hb, hml, hown, hts⟩ (mX0_dueWidth l h) (cwV 0 hts gX0_base_X0_dueWidth rfl rfl rfl (by decide +kernel) ⟨Nat.le_of_ble_eq_true rfl, Nat.le_of_ble_eq_true rfl⟩) hK hP 0 rfl rfl rfl rfl hl.1 rfl (Nat.le_of_ble_eq_true rfl) dX0_base_59 ⟨Nat.le_of_ble_eq_true rfl, Nat.le_of_ble_eq_true rfl⟩ (fun r_4 h => ?_)
      exact W.iret (v := r_4) hx hb hr (fun t ht hW => ⟨_, rfl, h, ht⟩) (fun q hq => absurd hq List.not_mem_nil) dX0_base_62
    · have h := h.2.2.2.1 c
      refine lv_tableIn (off := 52) (tgt := 63) hx hb dX0_base_11 (by rw [c]; decide) (by rw [c]; decide) (by rw [c]; rfl) (by decide) ?_
      refine lv_aload_n hx hb dX0_base_63 rfl (lv_at hl 0 rfl) ?_
      refine z_cVi (ci := 1) (As := []) (rest := []) ⟨hx, hb, hml, hown, hts⟩ (mX0_firstDarkColumn l h) (cwV 0 hts gX0_base_X0_firstDarkColumn rfl rfl rfl (by decide +kernel) ⟨Nat.le_of_ble_eq_true rfl, Nat.le_of_ble_eq_true rfl⟩) hK hP 0 rfl rfl rfl rfl hl.1 rfl (Nat.le_of_ble_eq_true rfl) dX0_base_64 ⟨Nat.le_of_ble_eq_true rfl, Nat.le_of_ble_eq_true rfl⟩ (fun r_5 h => ?_)
      exact W.iret (v := r_5) hx hb hr (fun t ht hW => ⟨_, rfl, h, ht⟩) (fun q hq => absurd hq List.not_mem_nil) dX0_base_67
    · have h := h.2.2.2.2.1 c
      refine lv_tableIn (off := 57) (tgt := 68) hx hb dX0_base_11 (by rw [c]; decide) (by rw [c]; decide) (by rw [c]; rfl) (by decide) ?_
      refine lv_aload_n hx hb dX0_base_68 rfl (lv_at hl 0 rfl) ?_
      refine z_cVi (ci := 1) (As := []) (rest := []) ⟨hx, hb, hml, hown, hts⟩ (mX0_lastDarkColumn l h) (cwV 0 hts gX0_base_X0_lastDarkColumn rfl rfl rfl (by decide +kernel) ⟨Nat.le_of_ble_eq_true rfl, Nat.le_of_ble_eq_true rfl⟩) hK hP 0 rfl rfl rfl rfl hl.1 rfl (Nat.le_of_ble_eq_true rfl) dX0_base_69 ⟨Nat.le_of_ble_eq_true rfl, Nat.le_of_ble_eq_true rfl⟩ (fun r_6 h => ?_)
      refine lv_iconst (v := 1) hx hb dX0_base_72 (by decide) ?_
      refine lv_iadd hx hb dX0_base_73 ?_
      exact W.iret (v := (r_6 + 1)) hx hb hr (fun t ht hW => ⟨_, rfl, h, ht⟩) (fun q hq => absurd hq List.not_mem_nil) dX0_base_74
    · have h := h.2.2.2.2.2.1 c
      refine lv_tableIn (off := 64) (tgt := 75) hx hb dX0_base_11 (by rw [c]; decide) (by rw [c]; decide) (by rw [c]; rfl) (by decide) ?_
      refine lv_aload_n hx hb dX0_base_75 rfl (lv_at hl 0 rfl) ?_
      refine lv_aload_n hx hb dX0_base_76 rfl (lv_at hl 0 rfl) ?_
      refine z_cVi (ci := 1) (As := []) (rest := [.ref (ad 0)]) ⟨hx, hb, hml, hown, hts⟩ (mX0_firstDarkColumn l h) (cwV 0 hts gX0_base_X0_firstDarkColumn rfl rfl rfl (by decide +kernel) ⟨Nat.le_of_ble_eq_true rfl, Nat.le_of_ble_eq_true rfl⟩) hK hP 0 rfl rfl rfl rfl hl.1 rfl (Nat.le_of_ble_eq_true rfl) dX0_base_77 ⟨Nat.le_of_ble_eq_true rfl, Nat.le_of_ble_eq_true rfl⟩ (fun r_7 h => ?_)
      refine lv_aload_n hx hb dX0_base_80 rfl (lv_at hl 0 rfl) ?_
      refine z_cVi (ci := 1) (As := []) (rest := [.int r_7, .ref (ad 0)]) ⟨hx, hb, hml, hown, hts⟩ (mX0_lastDarkColumn l h) (cwV 0 hts gX0_base_X0_lastDarkColumn rfl rfl rfl (by decide +kernel) ⟨Nat.le_of_ble_eq_true rfl, Nat.le_of_ble_eq_true rfl⟩) hK hP 0 rfl rfl rfl rfl hl.1 rfl (Nat.le_of_ble_eq_true rfl) dX0_base_81 ⟨Nat.le_of_ble_eq_true rfl, Nat.le_of_ble_eq_true rfl⟩ (fun r_8 h => ?_)
      refine lv_iconst (v := 1) hx hb dX0_base_84 (by decide) ?_
      refine lv_iadd hx hb dX0_base_85 ?_
      refine z_cVl (ci := 1) (As := [.int r_7, .int (r_8 + 1)]) (rest := []) ⟨hx, hb, hml, hown, hts⟩ (mX0_placesToCut l h) (cwV 2 hts gX0_base_X0_placesToCut rfl rfl rfl (by decide +kernel) ⟨Nat.le_of_ble_eq_true rfl, Nat.le_of_ble_eq_true rfl⟩) hK hP 0 rfl rfl rfl rfl hl.1 rfl (Nat.le_of_ble_eq_true rfl) dX0_base_86 ⟨Nat.le_of_ble_eq_true rfl, Nat.le_of_ble_eq_true rfl⟩ (fun r_9 h => ?_)
      refine z_cSi (As := [.long r_9]) (rest := []) ⟨hx, hb, hml, hown, hts⟩ (mJ13_bitCount_95d88 l h) (va_cwS 1 hts gX0_base_J13_bitCount_95d88 rfl rfl rfl (by decide +kernel) ⟨Nat.le_of_ble_eq_true rfl, Nat.le_of_ble_eq_true rfl⟩) rfl hl.1 rfl (Nat.le_of_ble_eq_true rfl) dX0_base_89 ⟨Nat.le_of_ble_eq_true rfl, Nat.le_of_ble_eq_true rfl⟩ (fun r_10 h => ?_)
      exact W.iret (v := r_10) hx hb hr (fun t ht hW => ⟨_, rfl, h, ht⟩) (fun q hq => absurd hq List.not_mem_nil) dX0_base_92
    · have h := h.2.2.2.2.2.2 c.1
      refine lv_tableOut (tgt := 93) hx hb dX0_base_11 c.2 (by decide) ?_
      refine lv_iconst (v := (-1)) hx hb dX0_base_93 (by decide) ?_
      exact W.iret (v := (-1)) hx hb hr (fun t ht hW => ⟨_, rfl, h, ht⟩) (fun q hq => absurd hq List.not_mem_nil) dX0_base_94
  · have h := h.1 c
    refine lv_iconst (v := (-1)) hx hb dX0_base_8 (by decide) ?_
    exact W.iret (v := (-1)) hx hb hr (fun t ht hW => ⟨_, rfl, h, ht⟩) (fun q hq => absurd hq List.not_mem_nil) dX0_base_9
theorem in_X0_slant : ∀ w ∈ wsX00, w ∈ wsX0_slant := by decide +kernel
set_option maxHeartbeats 4000000 in
set_option maxRecDepth 100000 in
theorem tX0_slant_36 {p : Program} {l : Launch} {e : Env} {s : State} {m : MethodId} {args : Array Value} {below : List Frame} {meth : Method} {c : Code} {dC : Nat → ClassId} {dI : Nat → Nat → Nat} {ad : Nat → Nat} {cA : Nat → ClassId} {nW : Nat} {nH : Nat} {ff : Int32} {fd : Int32} {cols : Nat → Int64} {rows : Nat → Int64} {ends : Nat → Int64} {ecost : Nat → Int32} {ecnt : Nat → Int32} {tails : Nat → Int32} {longer : Nat → Int32} {Post : Int32 → Prop} (hC : zC p s m args meth c cX0_slant wsX0_slant (some .int) 6 RX0) (hK : va_K (dC, dI) vwCl (tX0 cA) s) (hP : va_P (dC, dI) vwCl (wX0 ad cA nW nH ff fd cols rows ends ecost ecnt tails longer) s.heap) {r10 : Int32 → Int32 → Int32 → Prop} (hr10 : ∀ (x1 : Int32) (x2 : Int32) (x3 : Int32) (ls : Array Slot), lv_has ls 6 [(0, .ref (ad 0)), (1, .int x1), (2, .int x2), (3, .int x3)] → r10 x1 x2 x3 → W p l e ({ frames := 2, cells := 0, slots := 0, locals := 49 } : Room) s m args below meth c s.heap [] 0 0 (MQ below (vp_Si Post) args s 0 0 (fun _ => False)) (F0 m 10 ls [])) : ∀ (x1 : Int32) (x2 : Int32) (x3 : Int32) (ls : Array Slot), lv_has ls 6 [(0, .ref (ad 0)), (1, .int x1), (2, .int x2), (3, .int x3)] → jX0_slant_36 nH rows Post r10 x1 x2 x3 → W p l e ({ frames := 2, cells := 0, slots := 0, locals := 49 } : Room) s m args below meth c s.heap [] 0 0 (MQ below (vp_Si Post) args s 0 0 (fun _ => False)) (F0 m 36 ls []) := by
  have hC0 := hC
  obtain ⟨hx, hb, hr, hml, hown, hts, hlocks⟩ := hC
  intro x1 x2 x3 ls hl h
  unfold jX0_slant_36 at h
  refine lv_aload_n hx hb dX0_slant_36 rfl (lv_at hl 0 rfl) ?_
  refine lv_iload_n hx hb dX0_slant_37 rfl (lv_at hl 3 rfl) ?_
  refine z_cVi (ci := 1) (As := [.int x3]) (rest := []) ⟨hx, hb, hml, hown, hts⟩ (mX0_shearedColumns l h) (cwV 1 hts gX0_slant_X0_shearedColumns rfl rfl rfl (by decide +kernel) ⟨Nat.le_of_ble_eq_true rfl, Nat.le_of_ble_eq_true rfl⟩) hK hP 0 rfl rfl rfl rfl hl.1 rfl (Nat.le_of_ble_eq_true rfl) dX0_slant_38 ⟨Nat.le_of_ble_eq_true rfl, Nat.le_of_ble_eq_true rfl⟩ (fun r_3 h => ?_)
  refine lv_istore (lv' := [(5, .int r_3), (0, .ref (ad 0)), (1, .int x1), (2, .int x2), (3, .int x3)]) hx hb dX0_slant_41 hl (by decide) rfl (fun ls hl => ?_)
  refine lv_iload hx hb dX0_slant_43 (lv_at hl 0 rfl) ?_
  refine lv_iload_n hx hb dX0_slant_45 rfl (lv_at hl 3 rfl) ?_
  refine lv_icmp_ge (tgt := 54) hx hb dX0_slant_46 (by decide) (fun c => ?_) (fun c => ?_)
  · have h := h.1 c
    refine lv_iinc (v := (x3 + 1)) (lv' := [(3, .int (x3 + 1)), (5, .int r_3), (0, .ref (ad 0)), (1, .int x1), (2, .int x2)]) hx hb dX0_slant_54 hl (k := 4) rfl rfl (by decide) rfl (fun ls hl => ?_)
    refine lv_goto (tgt := 10) hx hb dX0_slant_57 (by decide) ?_
    exact hr10 _ _ _ ls (lv_sub hl [2, 3, 4, 0] rfl) h
  · have h := h.2 c
    refine lv_iload hx hb dX0_slant_49 (lv_at hl 0 rfl) ?_
    refine lv_istore_n (lv' := [(2, .int r_3), (5, .int r_3), (0, .ref (ad 0)), (1, .int x1), (3, .int x3)]) hx hb dX0_slant_51 rfl hl (by decide) rfl (fun ls hl => ?_)
    refine lv_iload_n hx hb dX0_slant_52 rfl (lv_at hl 4 rfl) ?_
    refine lv_istore_n (lv' := [(1, .int x3), (2, .int r_3), (5, .int r_3), (0, .ref (ad 0)), (3, .int x3)]) hx hb dX0_slant_53 rfl hl (by decide) rfl (fun ls hl => ?_)
    refine lv_iinc (v := (x3 + 1)) (lv' := [(3, .int (x3 + 1)), (1, .int x3), (2, .int r_3), (5, .int r_3), (0, .ref (ad 0))]) hx hb dX0_slant_54 hl (k := 4) rfl rfl (by decide) rfl (fun ls hl => ?_)
    refine lv_goto (tgt := 10) hx hb dX0_slant_57 (by decide) ?_
    exact hr10 _ _ _ ls (lv_sub hl [4, 1, 2, 0] rfl) h
set_option maxHeartbeats 4000000 in
set_option maxRecDepth 100000 in
theorem tX0_slant_10 {p : Program} {l : Launch} {e : Env} {s : State} {m : MethodId} {args : Array Value} {below : List Frame} {meth : Method} {c : Code} {dC : Nat → ClassId} {dI : Nat → Nat → Nat} {ad : Nat → Nat} {cA : Nat → ClassId} {nW : Nat} {nH : Nat} {ff : Int32} {fd : Int32} {cols : Nat → Int64} {rows : Nat → Int64} {ends : Nat → Int64} {ecost : Nat → Int32} {ecnt : Nat → Int32} {tails : Nat → Int32} {longer : Nat → Int32} {Post : Int32 → Prop} (hC : zC p s m args meth c cX0_slant wsX0_slant (some .int) 6 RX0) (hK : va_K (dC, dI) vwCl (tX0 cA) s) (hP : va_P (dC, dI) vwCl (wX0 ad cA nW nH ff fd cols rows ends ecost ecnt tails longer) s.heap) : ∀ (n : Nat), ∀ (x1 : Int32) (x2 : Int32) (x3 : Int32) (ls : Array Slot), lv_has ls 6 [(0, .ref (ad 0)), (1, .int x1), (2, .int x2), (3, .int x3)] → lX0_slant_10 nH rows Post n x1 x2 x3 → W p l e ({ frames := 2, cells := 0, slots := 0, locals := 49 } : Room) s m args below meth c s.heap [] 0 0 (MQ below (vp_Si Post) args s 0 0 (fun _ => False)) (F0 m 10 ls []) := by
  have hC0 := hC
  obtain ⟨hx, hb, hr, hml, hown, hts, hlocks⟩ := hC
  intro n
  induction n with
  | zero =>
    intro x1 x2 x3 ls hl h
    exact h.elim
  | succ n hr10 =>
    intro x1 x2 x3 ls hl h
    have h : bX0_slant_10 nH rows Post (lX0_slant_10 nH rows Post n) x1 x2 x3 := h
    unfold bX0_slant_10 at h
    refine lv_iload_n hx hb dX0_slant_10 rfl (lv_at hl 3 rfl) ?_
    refine lv_bipush (v := 6) hx hb dX0_slant_11 (by decide) ?_
    refine lv_icmp_gt (tgt := 60) hx hb dX0_slant_13 (by decide) (fun c => ?_) (fun c => ?_)
    · have h := h.1 c
      refine lv_iload_n hx hb dX0_slant_60 rfl (lv_at hl 1 rfl) ?_
      exact W.iret (v := x1) hx hb hr (fun t ht hW => ⟨_, rfl, h, ht⟩) (fun q hq => absurd hq List.not_mem_nil) dX0_slant_61
    · have h := h.2 c
      refine lv_aload_n hx hb dX0_slant_16 rfl (lv_at hl 0 rfl) ?_
      refine lv_iload_n hx hb dX0_slant_17 rfl (lv_at hl 3 rfl) ?_
      refine lv_ineg hx hb dX0_slant_18 ?_
      refine z_cVi (ci := 1) (As := [.int (-x3)]) (rest := []) ⟨hx, hb, hml, hown, hts⟩ (mX0_shearedColumns l h) (cwV 1 hts gX0_slant_X0_shearedColumns rfl rfl rfl (by decide +kernel) ⟨Nat.le_of_ble_eq_true rfl, Nat.le_of_ble_eq_true rfl⟩) hK hP 0 rfl rfl rfl rfl hl.1 rfl (Nat.le_of_ble_eq_true rfl) dX0_slant_19 ⟨Nat.le_of_ble_eq_true rfl, Nat.le_of_ble_eq_true rfl⟩ (fun r_2 h => ?_)
      refine lv_istore (lv' := [(4, .int r_2), (0, .ref (ad 0)), (1, .int x1), (2, .int x2), (3, .int x3)]) hx hb dX0_slant_22 hl (by decide) rfl (fun ls hl => ?_)
      refine lv_iload hx hb dX0_slant_24 (lv_at hl 0 rfl) ?_
      refine lv_iload_n hx hb dX0_slant_26 rfl (lv_at hl 3 rfl) ?_
      refine lv_icmp_ge (tgt := 36) hx hb dX0_slant_27 (by decide) (fun c => ?_) (fun c => ?_)
      · have h := h.1 c
        exact tX0_slant_36 hC0 hK hP hr10 _ _ _ ls (lv_sub hl [1, 2, 3, 4] rfl) h
      · have h := h.2 c
        refine lv_iload hx hb dX0_slant_30 (lv_at hl 0 rfl) ?_
        refine lv_istore_n (lv' := [(2, .int r_2), (4, .int r_2), (0, .ref (ad 0)), (1, .int x1), (3, .int x3)]) hx hb dX0_slant_32 rfl hl (by decide) rfl (fun ls hl => ?_)
        refine lv_iload_n hx hb dX0_slant_33 rfl (lv_at hl 4 rfl) ?_
        refine lv_ineg hx hb dX0_slant_34 ?_
        refine lv_topi (fun x1_4 ex1_4 => ?_)
        have h := h x1_4 ex1_4
        refine lv_istore_n (lv' := [(1, .int x1_4), (2, .int r_2), (4, .int r_2), (0, .ref (ad 0)), (3, .int x3)]) hx hb dX0_slant_35 rfl hl (by decide) rfl (fun ls hl => ?_)
        exact tX0_slant_36 hC0 hK hP hr10 _ _ _ ls (lv_sub hl [3, 0, 1, 4] rfl) h
set_option maxHeartbeats 4000000 in
set_option maxRecDepth 100000 in
theorem mX0_slant (l : Launch) {dC : Nat → ClassId} {dI : Nat → Nat → Nat} {ad : Nat → Nat} {cA : Nat → ClassId} {nW : Nat} {nH : Nat} {ff : Int32} {fd : Int32} {cols : Nat → Int64} {rows : Nat → Int64} {ends : Nat → Int64} {ecost : Nat → Int32} {ecnt : Nat → Int32} {tails : Nat → Int32} {longer : Nat → Int32} {Post : Int32 → Prop} (h : wX0_slant nH rows Post) : Met l yX0_slant wsX0_slant ({ frames := 2, cells := 0, slots := 0, locals := 49 } : Room) (zPc (dC, dI) vwCl (tX0 cA) (wX0 ad cA nW nH ff fd cols rows ends ecost ecnt tails longer) [.ref (ad 0)]) (vp_Si Post) 0 0 (fun _ => False) := by
  refine Met.ofW (cc := cX0_slant) (maxL := 6) (ret := (some .int)) (by decide) rfl ?_
  intro p e s m args below meth c s₁ B hml hv
  obtain ⟨rfl, hP, hK⟩ := hv
  have hC : zC p s m [.ref (ad 0)].toArray meth c cX0_slant wsX0_slant (some .int) 6 RX0 := ⟨B.exec, B.bytes, B.returns, hml, findClass_of_methodNamed B.named, atoms_spec (ws := wsX0_slant) B.pre, B.notSynchronized⟩
  have hC0 := hC
  obtain ⟨hx, hb, hr, hml, hown, hts, hlocks⟩ := hC
  have hl := lv_entry ([.ref (ad 0)]) (n := 6) (Nat.le_of_ble_eq_true rfl)
  rw [lg_entry_eq]
  generalize (lg_sl ([.ref (ad 0)]) ++ List.replicate (6 - (lg_sl ([.ref (ad 0)])).length) Slot.unset).toArray = ls at hl ⊢
  have hl : lv_has ls 6 [(0, .ref (ad 0))] := hl
  unfold wX0_slant at h
  refine lv_iconst (v := 0) hx hb dX0_slant_0 (by decide) ?_
  refine lv_istore_n (lv' := [(1, .int 0), (0, .ref (ad 0))]) hx hb dX0_slant_1 rfl hl (by decide) rfl (fun ls hl => ?_)
  refine lv_aload_n hx hb dX0_slant_2 rfl (lv_at hl 1 rfl) ?_
  refine lv_iconst (v := 0) hx hb dX0_slant_3 (by decide) ?_
  refine z_cVi (ci := 1) (As := [.int 0]) (rest := []) ⟨hx, hb, hml, hown, hts⟩ (mX0_shearedColumns l h) (cwV 1 hts gX0_slant_X0_shearedColumns rfl rfl rfl (by decide +kernel) ⟨Nat.le_of_ble_eq_true rfl, Nat.le_of_ble_eq_true rfl⟩) hK hP 0 rfl rfl rfl rfl hl.1 rfl (Nat.le_of_ble_eq_true rfl) dX0_slant_4 ⟨Nat.le_of_ble_eq_true rfl, Nat.le_of_ble_eq_true rfl⟩ (fun r_1 h => ?_)
  refine lv_istore_n (lv' := [(2, .int r_1), (1, .int 0), (0, .ref (ad 0))]) hx hb dX0_slant_7 rfl hl (by decide) rfl (fun ls hl => ?_)
  refine lv_iconst (v := 1) hx hb dX0_slant_8 (by decide) ?_
  refine lv_istore_n (lv' := [(3, .int 1), (2, .int r_1), (1, .int 0), (0, .ref (ad 0))]) hx hb dX0_slant_9 rfl hl (by decide) rfl (fun ls hl => ?_)
  obtain ⟨n_5, h⟩ := h
  exact tX0_slant_10 hC0 hK hP n_5 _ _ _ ls (lv_sub hl [3, 2, 1, 0] rfl) h
theorem in_X0_lengthenTails : ∀ w ∈ wsX00, w ∈ wsX0_lengthenTails := by decide +kernel
set_option maxHeartbeats 4000000 in
set_option maxRecDepth 100000 in
theorem tX0_lengthenTails_61 {p : Program} {l : Launch} {e : Env} {s : State} {m : MethodId} {args : Array Value} {below : List Frame} {meth : Method} {c : Code} {dC : Nat → ClassId} {dI : Nat → Nat → Nat} {ad : Nat → Nat} {cA : Nat → ClassId} {nW : Nat} {nH : Nat} {ff : Int32} {fd : Int32} {cols : Nat → Int64} {rows : Nat → Int64} {ends : Nat → Int64} {ecost : Nat → Int32} {ecnt : Nat → Int32} {a1 : Int32} {a2 : Int32} {a3 : Int64} {Post : (Nat → Int32) → (Nat → Int32) → Prop} (hC : zC p s m args meth c cX0_lengthenTails wsX0_lengthenTails none 8 RX0) (hK : va_K (dC, dI) vwCl (tX0 cA) s) {A : Nat → Prop} (hA : ∀ q, s.heap.size ≤ q → A q) {Qc : Array Value → State → Outcome → State → Prop} (hQ : ∀ (tails : Nat → Int32) (longer : Nat → Int32) (H : Heap) (locs : List Loc), va_P (dC, dI) vwCl (wX0 ad cA nW nH ff fd cols rows ends ecost ecnt tails longer) H → va_D A (wX0 ad cA nW nH ff fd cols rows ends ecost ecnt tails longer) → va_S A s.heap H locs → Post tails longer → ∀ t : State, t.heap = H → s.WarmedH t.vm → Qc args s (.returned none) t) {r17 : Int32 → Int32 → (Nat → Int32) → (Nat → Int32) → Prop} (hr17 : ∀ (x5 : Int32) (x6 : Int32) (tails : Nat → Int32) (longer : Nat → Int32) (H : Heap) (locs : List Loc), va_P (dC, dI) vwCl (wX0 ad cA nW nH ff fd cols rows ends ecost ecnt tails longer) H → va_D A (wX0 ad cA nW nH ff fd cols rows ends ecost ecnt tails longer) → va_S A s.heap H locs → ∀ (ls : Array Slot), lv_has ls 8 [(0, .ref (ad 0)), (1, .int a1), (2, .int a2), (3, .long a3), (5, .int x5), (6, .int x6)] → r17 x5 x6 tails longer → W p l e ({ frames := 1, cells := 0, slots := 0, locals := 60 } : Room) s m args below meth c H locs 0 0 (MQ below Qc args s 0 0 A) (F0 m 17 ls [])) : ∀ (x5 : Int32) (x6 : Int32) (s0 : Int32) (tails : Nat → Int32) (longer : Nat → Int32) (H : Heap) (locs : List Loc), va_P (dC, dI) vwCl (wX0 ad cA nW nH ff fd cols rows ends ecost ecnt tails longer) H → va_D A (wX0 ad cA nW nH ff fd cols rows ends ecost ecnt tails longer) → va_S A s.heap H locs → ∀ (ls : Array Slot), lv_has ls 8 [(0, .ref (ad 0)), (1, .int a1), (2, .int a2), (3, .long a3), (5, .int x5), (6, .int x6)] → jX0_lengthenTails_61 nW cols a1 a2 a3 Post r17 x5 x6 s0 tails longer → W p l e ({ frames := 1, cells := 0, slots := 0, locals := 60 } : Room) s m args below meth c H locs 0 0 (MQ below Qc args s 0 0 A) (F0 m 61 ls [.int s0]) := by
  have hC0 := hC
  obtain ⟨hx, hb, hr, hml, hown, hts, hlocks⟩ := hC
  intro x5 x6 s0 tails longer H locs hP hD hS ls hl h
  unfold jX0_lengthenTails_61 at h
  refine lv_istore (lv' := [(7, .int s0), (0, .ref (ad 0)), (1, .int a1), (2, .int a2), (3, .long a3), (5, .int x5), (6, .int x6)]) hx hb dX0_lengthenTails_61 hl (by decide) rfl (fun ls hl => ?_)
  refine lv_aload_n hx hb dX0_lengthenTails_63 rfl (lv_at hl 1 rfl) ?_
  refine va_get (D := (dC, dI)) (ci := 1) (v := .ref (ad 7)) (C := RX0) (T := TX0) (N := 11) hx hb hts in_X0_lengthenTails hown hK hP 0 rfl rfl 10 (by decide) (hts (.fieldLink RX0 45 "SignCutter" "longerTails" "[I") (by decide +kernel)) (fun _ h9 => h9) rfl dX0_lengthenTails_64 ?_
  refine lv_iload hx hb dX0_lengthenTails_67 (lv_at hl 6 rfl) ?_
  refine lv_ldc hx hb hown (hts (.constant RX0 128 (1000000000)) (by decide +kernel)) dX0_lengthenTails_69 ?_
  refine lv_aload_n hx hb dX0_lengthenTails_71 rfl (lv_at hl 1 rfl) ?_
  refine va_get (D := (dC, dI)) (ci := 1) (v := .ref (ad 7)) (C := RX0) (T := TX0) (N := 11) hx hb hts in_X0_lengthenTails hown hK hP 0 rfl rfl 10 (by decide) (hts (.fieldLink RX0 45 "SignCutter" "longerTails" "[I") (by decide +kernel)) (fun _ h9 => h9) rfl dX0_lengthenTails_72 ?_
  refine lv_iload hx hb dX0_lengthenTails_75 (lv_at hl 6 rfl) ?_
  refine lv_iconst (v := 1) hx hb dX0_lengthenTails_77 (by decide) ?_
  refine lv_iadd hx hb dX0_lengthenTails_78 ?_
  refine z_iald hx hb hK hP 7 6 rfl rfl h dX0_lengthenTails_79 (fun j_9 h => ?_)
  refine lv_iload hx hb dX0_lengthenTails_80 (lv_at hl 0 rfl) ?_
  refine lv_iadd hx hb dX0_lengthenTails_82 ?_
  refine va_mmin hx hb (hml.trans hl.1.symm) hown (hts (.methodLink RX0 9 Lib.Math.min.name) (by decide +kernel)) (hts (.static Lib.Math.min.name) (by decide +kernel)) (hts (.initialized "java/lang/Math") (by decide +kernel)) (hts (.code Lib.Math.min.name Lib.Math.min.code 2 (some .int)) (by decide +kernel)) (Nat.le_of_ble_eq_true rfl) (Nat.le_of_ble_eq_true rfl) (Nat.le_of_ble_eq_true rfl) (Nat.le_of_ble_eq_true rfl) dX0_lengthenTails_83 ?_
  refine W.eq (g2 := F0 m 86 ls [.int (zMin 1000000000 ((longer j_9) + s0)), .int x6, .ref (ad 7)]) rfl ?_
  refine z_iast hx hb hK hP hD hS 7 6 rfl rfl h dX0_lengthenTails_86 (fun j_10 H locs h hP hD hS => ?_)
  have hP : va_P (dC, dI) vwCl (wX0 ad cA nW nH ff fd cols rows ends ecost ecnt tails (upd longer j_10 (zMin 1000000000 ((longer j_9) + s0)))) H := hP
  have hD : va_D A (wX0 ad cA nW nH ff fd cols rows ends ecost ecnt tails (upd longer j_10 (zMin 1000000000 ((longer j_9) + s0)))) := hD
  refine lv_iinc (v := (x6 + (-1))) (lv' := [(6, .int (x6 + (-1))), (7, .int s0), (0, .ref (ad 0)), (1, .int a1), (2, .int a2), (3, .long a3), (5, .int x5)]) hx hb dX0_lengthenTails_87 hl (k := 6) rfl rfl (by decide) rfl (fun ls hl => ?_)
  refine lv_goto (tgt := 17) hx hb dX0_lengthenTails_90 (by decide) ?_
  exact hr17 _ _ _ _ _ _ hP hD hS ls (lv_sub hl [2, 3, 4, 5, 6, 0] rfl) h
set_option maxHeartbeats 4000000 in
set_option maxRecDepth 100000 in
theorem tX0_lengthenTails_39 {p : Program} {l : Launch} {e : Env} {s : State} {m : MethodId} {args : Array Value} {below : List Frame} {meth : Method} {c : Code} {dC : Nat → ClassId} {dI : Nat → Nat → Nat} {ad : Nat → Nat} {cA : Nat → ClassId} {nW : Nat} {nH : Nat} {ff : Int32} {fd : Int32} {cols : Nat → Int64} {rows : Nat → Int64} {ends : Nat → Int64} {ecost : Nat → Int32} {ecnt : Nat → Int32} {a1 : Int32} {a2 : Int32} {a3 : Int64} {Post : (Nat → Int32) → (Nat → Int32) → Prop} (hC : zC p s m args meth c cX0_lengthenTails wsX0_lengthenTails none 8 RX0) (hK : va_K (dC, dI) vwCl (tX0 cA) s) {A : Nat → Prop} (hA : ∀ q, s.heap.size ≤ q → A q) {Qc : Array Value → State → Outcome → State → Prop} (hQ : ∀ (tails : Nat → Int32) (longer : Nat → Int32) (H : Heap) (locs : List Loc), va_P (dC, dI) vwCl (wX0 ad cA nW nH ff fd cols rows ends ecost ecnt tails longer) H → va_D A (wX0 ad cA nW nH ff fd cols rows ends ecost ecnt tails longer) → va_S A s.heap H locs → Post tails longer → ∀ t : State, t.heap = H → s.WarmedH t.vm → Qc args s (.returned none) t) {r17 : Int32 → Int32 → (Nat → Int32) → (Nat → Int32) → Prop} (hr17 : ∀ (x5 : Int32) (x6 : Int32) (tails : Nat → Int32) (longer : Nat → Int32) (H : Heap) (locs : List Loc), va_P (dC, dI) vwCl (wX0 ad cA nW nH ff fd cols rows ends ecost ecnt tails longer) H → va_D A (wX0 ad cA nW nH ff fd cols rows ends ecost ecnt tails longer) → va_S A s.heap H locs → ∀ (ls : Array Slot), lv_has ls 8 [(0, .ref (ad 0)), (1, .int a1), (2, .int a2), (3, .long a3), (5, .int x5), (6, .int x6)] → r17 x5 x6 tails longer → W p l e ({ frames := 1, cells := 0, slots := 0, locals := 60 } : Room) s m args below meth c H locs 0 0 (MQ below Qc args s 0 0 A) (F0 m 17 ls [])) : ∀ (x5 : Int32) (x6 : Int32) (tails : Nat → Int32) (longer : Nat → Int32) (H : Heap) (locs : List Loc), va_P (dC, dI) vwCl (wX0 ad cA nW nH ff fd cols rows ends ecost ecnt tails longer) H → va_D A (wX0 ad cA nW nH ff fd cols rows ends ecost ecnt tails longer) → va_S A s.heap H locs → ∀ (ls : Array Slot), lv_has ls 8 [(0, .ref (ad 0)), (1, .int a1), (2, .int a2), (3, .long a3), (5, .int x5), (6, .int x6)] → jX0_lengthenTails_39 nW cols a1 a2 a3 Post r17 x5 x6 tails longer → W p l e ({ frames := 1, cells := 0, slots := 0, locals := 60 } : Room) s m args below meth c H locs 0 0 (MQ below Qc args s 0 0 A) (F0 m 39 ls []) := by
  have hC0 := hC
  obtain ⟨hx, hb, hr, hml, hown, hts, hlocks⟩ := hC
  intro x5 x6 tails longer H locs hP hD hS ls hl h
  unfold jX0_lengthenTails_39 at h
  refine lv_lload_n hx hb dX0_lengthenTails_39 rfl (lv_at hl 3 rfl) ?_
  refine lv_iload hx hb dX0_lengthenTails_40 (lv_at hl 5 rfl) ?_
  refine z_cSi (As := [.long a3, .int x6]) (rest := []) ⟨hx, hb, hml, hown, hts⟩ (mX0_has l h) (va_cwS 2 hts gX0_lengthenTails_X0_has rfl rfl rfl (by decide +kernel) ⟨Nat.le_of_ble_eq_true rfl, Nat.le_of_ble_eq_true rfl⟩) rfl hl.1 rfl (Nat.le_of_ble_eq_true rfl) dX0_lengthenTails_42 ⟨Nat.le_of_ble_eq_true rfl, Nat.le_of_ble_eq_true rfl⟩ (fun r_8 h => ?_)
  refine lv_if_eq (tgt := 60) hx hb dX0_lengthenTails_45 (by decide) (fun c => ?_) (fun c => ?_)
  · have h := h.1 c
    refine lv_iconst (v := 0) hx hb dX0_lengthenTails_60 (by decide) ?_
    exact tX0_lengthenTails_61 hC0 hK hA hQ hr17 _ _ _ _ _ _ _ hP hD hS ls (lv_sub hl [0, 1, 2, 3, 4, 5] rfl) h
  · have h := h.2 c
    refine lv_aload_n hx hb dX0_lengthenTails_48 rfl (lv_at hl 0 rfl) ?_
    refine va_get (D := (dC, dI)) (ci := 1) (v := .ref (ad 6)) (C := RX0) (T := TX0) (N := 11) hx hb hts in_X0_lengthenTails hown hK hP 0 rfl rfl 9 (by decide) (hts (.fieldLink RX0 42 "SignCutter" "tails" "[I") (by decide +kernel)) (fun _ h9 => h9) rfl dX0_lengthenTails_49 ?_
    refine lv_iload hx hb dX0_lengthenTails_52 (lv_at hl 4 rfl) ?_
    refine lv_iconst (v := 1) hx hb dX0_lengthenTails_54 (by decide) ?_
    refine lv_iadd hx hb dX0_lengthenTails_55 ?_
    refine z_iald hx hb hK hP 6 5 rfl rfl h dX0_lengthenTails_56 (fun j_11 h => ?_)
    refine lv_goto (tgt := 61) hx hb dX0_lengthenTails_57 (by decide) ?_
    exact tX0_lengthenTails_61 hC0 hK hA hQ hr17 _ _ _ _ _ _ _ hP hD hS ls (lv_sub hl [0, 1, 2, 3, 4, 5] rfl) h
set_option maxHeartbeats 4000000 in
set_option maxRecDepth 100000 in
theorem tX0_lengthenTails_17 {p : Program} {l : Launch} {e : Env} {s : State} {m : MethodId} {args : Array Value} {below : List Frame} {meth : Method} {c : Code} {dC : Nat → ClassId} {dI : Nat → Nat → Nat} {ad : Nat → Nat} {cA : Nat → ClassId} {nW : Nat} {nH : Nat} {ff : Int32} {fd : Int32} {cols : Nat → Int64} {rows : Nat → Int64} {ends : Nat → Int64} {ecost : Nat → Int32} {ecnt : Nat → Int32} {a1 : Int32} {a2 : Int32} {a3 : Int64} {Post : (Nat → Int32) → (Nat → Int32) → Prop} (hC : zC p s m args meth c cX0_lengthenTails wsX0_lengthenTails none 8 RX0) (hK : va_K (dC, dI) vwCl (tX0 cA) s) {A : Nat → Prop} (hA : ∀ q, s.heap.size ≤ q → A q) {Qc : Array Value → State → Outcome → State → Prop} (hQ : ∀ (tails : Nat → Int32) (longer : Nat → Int32) (H : Heap) (locs : List Loc), va_P (dC, dI) vwCl (wX0 ad cA nW nH ff fd cols rows ends ecost ecnt tails longer) H → va_D A (wX0 ad cA nW nH ff fd cols rows ends ecost ecnt tails longer) → va_S A s.heap H locs → Post tails longer → ∀ t : State, t.heap = H → s.WarmedH t.vm → Qc args s (.returned none) t) : ∀ (n : Nat), ∀ (x5 : Int32) (x6 : Int32) (tails : Nat → Int32) (longer : Nat → Int32) (H : Heap) (locs : List Loc), va_P (dC, dI) vwCl (wX0 ad cA nW nH ff fd cols rows ends ecost ecnt tails longer) H → va_D A (wX0 ad cA nW nH ff fd cols rows ends ecost ecnt tails longer) → va_S A s.heap H locs → ∀ (ls : Array Slot), lv_has ls 8 [(0, .ref (ad 0)), (1, .int a1), (2, .int a2), (3, .long a3), (5, .int x5), (6, .int x6)] → lX0_lengthenTails_17 nW cols a1 a2 a3 Post n x5 x6 tails longer → W p l e ({ frames := 1, cells := 0, slots := 0, locals := 60 } : Room) s m args below meth c H locs 0 0 (MQ below Qc args s 0 0 A) (F0 m 17 ls []) := by
  have hC0 := hC
  obtain ⟨hx, hb, hr, hml, hown, hts, hlocks⟩ := hC
  intro n
  induction n with
  | zero =>
    intro x5 x6 tails longer H locs hP hD hS ls hl h
    exact h.elim
  | succ n hr17 =>
    intro x5 x6 tails longer H locs hP hD hS ls hl h
    have h : bX0_lengthenTails_17 nW cols a1 a2 a3 Post (lX0_lengthenTails_17 nW cols a1 a2 a3 Post n) x5 x6 tails longer := h
    unfold bX0_lengthenTails_17 at h
    refine lv_iload hx hb dX0_lengthenTails_17 (lv_at hl 5 rfl) ?_
    refine lv_iload_n hx hb dX0_lengthenTails_19 rfl (lv_at hl 1 rfl) ?_
    refine lv_icmp_le (tgt := 93) hx hb dX0_lengthenTails_20 (by decide) (fun c => ?_) (fun c => ?_)
    · have h := h.1 c
      refine lv_aload_n hx hb dX0_lengthenTails_93 rfl (lv_at hl 0 rfl) ?_
      refine va_get (D := (dC, dI)) (ci := 1) (v := .ref (ad 7)) (C := RX0) (T := TX0) (N := 11) hx hb hts in_X0_lengthenTails hown hK hP 0 rfl rfl 10 (by decide) (hts (.fieldLink RX0 45 "SignCutter" "longerTails" "[I") (by decide +kernel)) (fun _ h9 => h9) rfl dX0_lengthenTails_94 ?_
      refine lv_iload_n hx hb dX0_lengthenTails_97 rfl (lv_at hl 1 rfl) ?_
      refine lv_iconst (v := 1) hx hb dX0_lengthenTails_98 (by decide) ?_
      refine lv_iadd hx hb dX0_lengthenTails_99 ?_
      refine lv_aload_n hx hb dX0_lengthenTails_100 rfl (lv_at hl 0 rfl) ?_
      refine va_get (D := (dC, dI)) (ci := 1) (v := .ref (ad 6)) (C := RX0) (T := TX0) (N := 11) hx hb hts in_X0_lengthenTails hown hK hP 0 rfl rfl 9 (by decide) (hts (.fieldLink RX0 42 "SignCutter" "tails" "[I") (by decide +kernel)) (fun _ h9 => h9) rfl dX0_lengthenTails_101 ?_
      refine lv_iload_n hx hb dX0_lengthenTails_104 rfl (lv_at hl 1 rfl) ?_
      refine lv_iconst (v := 1) hx hb dX0_lengthenTails_105 (by decide) ?_
      refine lv_iadd hx hb dX0_lengthenTails_106 ?_
      refine lv_iload_n hx hb dX0_lengthenTails_107 rfl (lv_at hl 2 rfl) ?_
      refine lv_iload_n hx hb dX0_lengthenTails_108 rfl (lv_at hl 1 rfl) ?_
      refine lv_isub hx hb dX0_lengthenTails_109 ?_
      refine z_copyi hx hb (hml.trans hl.1.symm) hown (hts (.methodLink RX0 129 arraycopyName) (by decide +kernel)) (hts (.native arraycopyName) (by decide +kernel)) (hts (.static arraycopyName) (by decide +kernel)) (hts (.initialized "java/lang/System") (by decide +kernel)) hK hP hD hS 7 6 6 5 rfl rfl rfl rfl h (Nat.le_of_ble_eq_true rfl) (Nat.le_of_ble_eq_true rfl) dX0_lengthenTails_110 (fun i_4 j_5 k_6 H locs h hP hD hS => ?_)
      have hP : va_P (dC, dI) vwCl (wX0 ad cA nW nH ff fd cols rows ends ecost ecnt (va_cpy longer tails i_4 j_5 k_6) longer) H := hP
      have hD : va_D A (wX0 ad cA nW nH ff fd cols rows ends ecost ecnt (va_cpy longer tails i_4 j_5 k_6) longer) := hD
      exact W.vret hx hb hr (hQ _ _ _ _ hP hD hS h) hS.2.2 dX0_lengthenTails_113
    · have h := h.2 c
      refine lv_aload_n hx hb dX0_lengthenTails_23 rfl (lv_at hl 0 rfl) ?_
      refine va_get (D := (dC, dI)) (ci := 1) (v := .ref (ad 1)) (C := RX0) (T := TX0) (N := 11) hx hb hts in_X0_lengthenTails hown hK hP 0 rfl rfl 2 (by decide) (hts (.fieldLink RX0 25 "SignCutter" "columns" "[J") (by decide +kernel)) (fun _ h9 => h9) rfl dX0_lengthenTails_24 ?_
      refine lv_iload hx hb dX0_lengthenTails_27 (lv_at hl 5 rfl) ?_
      refine z_lald hx hb hK hP 1 0 rfl rfl h dX0_lengthenTails_29 (fun j_7 h => ?_)
      refine lv_lconst (v := 0) hx hb dX0_lengthenTails_30 (by decide) ?_
      refine W.lcmp hx hb dX0_lengthenTails_31 ?_
      refine lv_if_eq (tgt := 39) hx hb dX0_lengthenTails_32 (by decide) (fun c => ?_) (fun c => ?_)
      · have h := h.1 c
        exact tX0_lengthenTails_39 hC0 hK hA hQ hr17 _ _ _ _ _ _ hP hD hS ls (lv_sub hl [0, 1, 2, 3, 4, 5] rfl) h
      · have h := h.2 c
        refine lv_iload hx hb dX0_lengthenTails_35 (lv_at hl 5 rfl) ?_
        refine lv_istore (lv' := [(5, .int x6), (0, .ref (ad 0)), (1, .int a1), (2, .int a2), (3, .long a3), (6, .int x6)]) hx hb dX0_lengthenTails_37 hl (by decide) rfl (fun ls hl => ?_)
        exact tX0_lengthenTails_39 hC0 hK hA hQ hr17 _ _ _ _ _ _ hP hD hS ls (lv_sub hl [1, 2, 3, 4, 0, 5] rfl) h
set_option maxHeartbeats 4000000 in
set_option maxRecDepth 100000 in
theorem mX0_lengthenTails (l : Launch) {dC : Nat → ClassId} {dI : Nat → Nat → Nat} {ad : Nat → Nat} {cA : Nat → ClassId} {nW : Nat} {nH : Nat} {ff : Int32} {fd : Int32} {cols : Nat → Int64} {rows : Nat → Int64} {ends : Nat → Int64} {ecost : Nat → Int32} {ecnt : Nat → Int32} {tails : Nat → Int32} {longer : Nat → Int32} {sz : Nat} {a1 : Int32} {a2 : Int32} {a3 : Int64} {Post : (Nat → Int32) → (Nat → Int32) → Prop} (h : wX0_lengthenTails nW cols tails longer a1 a2 a3 Post) : Met l yX0_lengthenTails wsX0_lengthenTails ({ frames := 1, cells := 0, slots := 0, locals := 60 } : Room) (zPw (dC, dI) vwCl (tX0 cA) (wX0 ad cA nW nH ff fd cols rows ends ecost ecnt tails longer) sz [.ref (ad 0), .int a1, .int a2, .long a3]) (va_Qv (S := (Nat → Int32) × (Nat → Int32)) (fun (u : (Nat → Int32) × (Nat → Int32)) => Post u.1 u.2) (zB (dC, dI) vwCl (tX0 cA) (wX0 ad cA nW nH ff fd cols rows ends ecost ecnt tails longer) sz (fun u : (Nat → Int32) × (Nat → Int32) => wX0 ad cA nW nH ff fd cols rows ends ecost ecnt u.1 u.2)) (va_A (wX0 ad cA nW nH ff fd cols rows ends ecost ecnt tails longer) sz)) 0 0 (va_A (wX0 ad cA nW nH ff fd cols rows ends ecost ecnt tails longer) sz) := by
  refine Met.ofW (cc := cX0_lengthenTails) (maxL := 8) (ret := none) (by decide) rfl ?_
  intro p e s m args below meth c s₁ B hml hv
  obtain ⟨rfl, hsz, hP, hK, hD0⟩ := hv
  have hC : zC p s m [.ref (ad 0), .int a1, .int a2, .long a3].toArray meth c cX0_lengthenTails wsX0_lengthenTails none 8 RX0 := ⟨B.exec, B.bytes, B.returns, hml, findClass_of_methodNamed B.named, atoms_spec (ws := wsX0_lengthenTails) B.pre, B.notSynchronized⟩
  have hC0 := hC
  obtain ⟨hx, hb, hr, hml, hown, hts, hlocks⟩ := hC
  subst hsz
  have hD := hD0.self (sz := s.heap.size)
  have hA : ∀ q : Nat, s.heap.size ≤ q → va_A (wX0 ad cA nW nH ff fd cols rows ends ecost ecnt tails longer) s.heap.size q := fun q h => Or.inr h
  have hS : va_S (va_A (wX0 ad cA nW nH ff fd cols rows ends ecost ecnt tails longer) s.heap.size) s.heap s.heap [] := va_S.rf
  generalize hQe : (va_Qv (S := (Nat → Int32) × (Nat → Int32)) (fun (u : (Nat → Int32) × (Nat → Int32)) => Post u.1 u.2) (zB (dC, dI) vwCl (tX0 cA) (wX0 ad cA nW nH ff fd cols rows ends ecost ecnt tails longer) s.heap.size (fun u : (Nat → Int32) × (Nat → Int32) => wX0 ad cA nW nH ff fd cols rows ends ecost ecnt u.1 u.2)) (va_A (wX0 ad cA nW nH ff fd cols rows ends ecost ecnt tails longer) s.heap.size)) = Qc
  generalize hAe : va_A (wX0 ad cA nW nH ff fd cols rows ends ecost ecnt tails longer) s.heap.size = A at hD hA hS hQe ⊢
  have hQ : ∀ (tails : Nat → Int32) (longer : Nat → Int32) (H : Heap) (locs : List Loc), va_P (dC, dI) vwCl (wX0 ad cA nW nH ff fd cols rows ends ecost ecnt tails longer) H → va_D A (wX0 ad cA nW nH ff fd cols rows ends ecost ecnt tails longer) → va_S A s.heap H locs → Post tails longer → ∀ t : State, t.heap = H → s.WarmedH t.vm → Qc [.ref (ad 0), .int a1, .int a2, .long a3].toArray s (.returned none) t := by
    intro tails longer H locs hP hD hS h t ht hW
    rw [← hQe]
    exact ⟨⟨(tails, longer), rfl, h, by rw [ht]; exact hP, va_K.moved hW.alike hK, hAe ▸ hD⟩, hS.F ht⟩
  clear hQe hAe
  have hl := lv_entry ([.ref (ad 0), .int a1, .int a2, .long a3]) (n := 8) (Nat.le_of_ble_eq_true rfl)
  rw [lg_entry_eq]
  generalize (lg_sl ([.ref (ad 0), .int a1, .int a2, .long a3]) ++ List.replicate (8 - (lg_sl ([.ref (ad 0), .int a1, .int a2, .long a3])).length) Slot.unset).toArray = ls at hl ⊢
  have hl : lv_has ls 8 [(0, .ref (ad 0)), (1, .int a1), (2, .int a2), (3, .long a3)] := hl
  show W p l e ({ frames := 1, cells := 0, slots := 0, locals := 60 } : Room) s m _ below meth c s.heap [] 0 0 (MQ below Qc _ s 0 0 A) (F0 m 0 ls [])
  unfold wX0_lengthenTails at h
  refine lv_iload_n hx hb dX0_lengthenTails_0 rfl (lv_at hl 2 rfl) ?_
  refine lv_iconst (v := 1) hx hb dX0_lengthenTails_1 (by decide) ?_
  refine lv_isub hx hb dX0_lengthenTails_2 ?_
  refine lv_topi (fun x5_1 ex5_1 => ?_)
  have h := h x5_1 ex5_1
  refine lv_istore (lv' := [(5, .int x5_1), (0, .ref (ad 0)), (1, .int a1), (2, .int a2), (3, .long a3)]) hx hb dX0_lengthenTails_3 hl (by decide) rfl (fun ls hl => ?_)
  refine lv_aload_n hx hb dX0_lengthenTails_5 rfl (lv_at hl 1 rfl) ?_
  refine va_get (D := (dC, dI)) (ci := 1) (v := .ref (ad 7)) (C := RX0) (T := TX0) (N := 11) hx hb hts in_X0_lengthenTails hown hK hP 0 rfl rfl 10 (by decide) (hts (.fieldLink RX0 45 "SignCutter" "longerTails" "[I") (by decide +kernel)) (fun _ h9 => h9) rfl dX0_lengthenTails_6 ?_
  refine lv_iload_n hx hb dX0_lengthenTails_9 rfl (lv_at hl 3 rfl) ?_
  refine lv_iconst (v := 0) hx hb dX0_lengthenTails_10 (by decide) ?_
  refine z_iast hx hb hK hP hD hS 7 6 rfl rfl h dX0_lengthenTails_11 (fun j_2 H locs h hP hD hS => ?_)
  have hP : va_P (dC, dI) vwCl (wX0 ad cA nW nH ff fd cols rows ends ecost ecnt tails (upd longer j_2 0)) H := hP
  have hD : va_D A (wX0 ad cA nW nH ff fd cols rows ends ecost ecnt tails (upd longer j_2 0)) := hD
  refine lv_iload_n hx hb dX0_lengthenTails_12 rfl (lv_at hl 3 rfl) ?_
  refine lv_iconst (v := 1) hx hb dX0_lengthenTails_13 (by decide) ?_
  refine lv_isub hx hb dX0_lengthenTails_14 ?_
  refine lv_topi (fun x6_3 ex6_3 => ?_)
  have h := h x6_3 ex6_3
  refine lv_istore (lv' := [(6, .int x6_3), (5, .int x5_1), (0, .ref (ad 0)), (1, .int a1), (2, .int a2), (3, .long a3)]) hx hb dX0_lengthenTails_15 hl (by decide) rfl (fun ls hl => ?_)
  obtain ⟨n_12, h⟩ := h
  exact tX0_lengthenTails_17 hC0 hK hA hQ n_12 _ _ _ _ _ _ hP hD hS ls (lv_sub hl [2, 3, 4, 5, 1, 0] rfl) h
theorem in_X0_plain : ∀ w ∈ wsX00, w ∈ wsX0_plain := by decide +kernel
set_option maxHeartbeats 4000000 in
set_option maxRecDepth 100000 in
theorem tX0_plain_66 {p : Program} {l : Launch} {e : Env} {s : State} {m : MethodId} {args : Array Value} {below : List Frame} {meth : Method} {c : Code} {dC : Nat → ClassId} {dI : Nat → Nat → Nat} {ad : Nat → Nat} {cA : Nat → ClassId} {nW : Nat} {nH : Nat} {ff : Int32} {fd : Int32} {cols : Nat → Int64} {rows : Nat → Int64} {ends : Nat → Int64} {ecost : Nat → Int32} {ecnt : Nat → Int32} {a1 : Int32} {Post : Int32 → (Nat → Int32) → (Nat → Int32) → Prop} (hC : zC p s m args meth c cX0_plain wsX0_plain (some .int) 7 RX0) (hK : va_K (dC, dI) vwCl (tX0 cA) s) {A : Nat → Prop} (hA : ∀ q, s.heap.size ≤ q → A q) {Qc : Array Value → State → Outcome → State → Prop} (hQ : ∀ (r : Int32) (tails : Nat → Int32) (longer : Nat → Int32) (H : Heap) (locs : List Loc), va_P (dC, dI) vwCl (wX0 ad cA nW nH ff fd cols rows ends ecost ecnt tails longer) H → va_D A (wX0 ad cA nW nH ff fd cols rows ends ecost ecnt tails longer) → va_S A s.heap H locs → Post r tails longer → ∀ t : State, t.heap = H → s.WarmedH t.vm → Qc args s (.returned (some (.int r))) t) : ∀ (n : Nat), ∀ (x2 : Int32) (x3 : Int32) (x4 : Int64) (x6 : Int32) (tails : Nat → Int32) (longer : Nat → Int32) (H : Heap) (locs : List Loc), va_P (dC, dI) vwCl (wX0 ad cA nW nH ff fd cols rows ends ecost ecnt tails longer) H → va_D A (wX0 ad cA nW nH ff fd cols rows ends ecost ecnt tails longer) → va_S A s.heap H locs → ∀ (ls : Array Slot), lv_has ls 7 [(0, .ref (ad 0)), (1, .int a1), (2, .int x2), (3, .int x3), (4, .long x4), (6, .int x6)] → lX0_plain_66 nW cols a1 Post n x2 x3 x4 x6 tails longer → W p l e ({ frames := 3, cells := 0, slots := 0, locals := 87 } : Room) s m args below meth c H locs 0 0 (MQ below Qc args s 0 0 A) (F0 m 66 ls []) := by
  have hC0 := hC
  obtain ⟨hx, hb, hr, hml, hown, hts, hlocks⟩ := hC
  intro n
  induction n with
  | zero =>
    intro x2 x3 x4 x6 tails longer H locs hP hD hS ls hl h
    exact h.elim
  | succ n hr66 =>
    intro x2 x3 x4 x6 tails longer H locs hP hD hS ls hl h
    have h : bX0_plain_66 nW cols a1 Post (lX0_plain_66 nW cols a1 Post n) x2 x3 x4 x6 tails longer := h
    unfold bX0_plain_66 at h
    refine lv_iload hx hb dX0_plain_66 (lv_at hl 5 rfl) ?_
    refine lv_iload_n hx hb dX0_plain_68 rfl (lv_at hl 1 rfl) ?_
    refine lv_icmp_ge (tgt := 86) hx hb dX0_plain_69 (by decide) (fun c => ?_) (fun c => ?_)
    · have h := h.1 c
      refine lv_aload_n hx hb dX0_plain_86 rfl (lv_at hl 0 rfl) ?_
      refine va_get (D := (dC, dI)) (ci := 1) (v := .ref (ad 6)) (C := RX0) (T := TX0) (N := 11) hx hb hts in_X0_plain hown hK hP 0 rfl rfl 9 (by decide) (hts (.fieldLink RX0 42 "SignCutter" "tails" "[I") (by decide +kernel)) (fun _ h9 => h9) rfl dX0_plain_87 ?_
      refine lv_iload_n hx hb dX0_plain_90 rfl (lv_at hl 2 rfl) ?_
      refine lv_iconst (v := 1) hx hb dX0_plain_91 (by decide) ?_
      refine lv_iadd hx hb dX0_plain_92 ?_
      refine z_iald hx hb hK hP 6 5 rfl rfl h dX0_plain_93 (fun j_5 h => ?_)
      exact W.iret (v := (tails j_5)) hx hb hr (hQ _ _ _ _ _ hP hD hS h) hS.2.2 dX0_plain_94
    · have h := h.2 c
      refine lv_aload_n hx hb dX0_plain_72 rfl (lv_at hl 0 rfl) ?_
      refine lv_iload_n hx hb dX0_plain_73 rfl (lv_at hl 2 rfl) ?_
      refine lv_iload_n hx hb dX0_plain_74 rfl (lv_at hl 3 rfl) ?_
      refine lv_lload hx hb dX0_plain_75 (lv_at hl 4 rfl) ?_
      refine z_cVv (ci := 1) (As := [.int x2, .int x3, .long x4]) (rest := []) ⟨hx, hb, hml, hown, hts⟩ (mX0_lengthenTails l h) (cwV 3 hts gX0_plain_X0_lengthenTails rfl rfl rfl (by decide +kernel) ⟨Nat.le_of_ble_eq_true rfl, Nat.le_of_ble_eq_true rfl⟩) hK hP hD hS hA 0 rfl rfl rfl rfl hl.1 rfl (Nat.le_of_ble_eq_true rfl) dX0_plain_77 ⟨Nat.le_of_ble_eq_true rfl, Nat.le_of_ble_eq_true rfl⟩ (fun u_6 H locs h hP hD hS => ?_)
      revert h hP hD
      generalize u_6.1 = tails_8
      generalize u_6.2 = longer_9
      intro h hP hD
      have hP : va_P (dC, dI) vwCl (wX0 ad cA nW nH ff fd cols rows ends ecost ecnt tails_8 longer_9) H := hP
      have hD : va_D A (wX0 ad cA nW nH ff fd cols rows ends ecost ecnt tails_8 longer_9) := hD
      refine lv_iinc (v := (x6 + 1)) (lv' := [(6, .int (x6 + 1)), (0, .ref (ad 0)), (1, .int a1), (2, .int x2), (3, .int x3), (4, .long x4)]) hx hb dX0_plain_80 hl (k := 5) rfl rfl (by decide) rfl (fun ls hl => ?_)
      refine lv_goto (tgt := 66) hx hb dX0_plain_83 (by decide) ?_
      exact hr66 _ _ _ _ _ _ _ _ hP hD hS ls (lv_sub hl [1, 2, 3, 4, 5, 0] rfl) h
set_option maxHeartbeats 4000000 in
set_option maxRecDepth 100000 in
theorem tX0_plain_43 {p : Program} {l : Launch} {e : Env} {s : State} {m : MethodId} {args : Array Value} {below : List Frame} {meth : Method} {c : Code} {dC : Nat → ClassId} {dI : Nat → Nat → Nat} {ad : Nat → Nat} {cA : Nat → ClassId} {nW : Nat} {nH : Nat} {ff : Int32} {fd : Int32} {cols : Nat → Int64} {rows : Nat → Int64} {ends : Nat → Int64} {ecost : Nat → Int32} {ecnt : Nat → Int32} {a1 : Int32} {Post : Int32 → (Nat → Int32) → (Nat → Int32) → Prop} (hC : zC p s m args meth c cX0_plain wsX0_plain (some .int) 7 RX0) (hK : va_K (dC, dI) vwCl (tX0 cA) s) {A : Nat → Prop} (hA : ∀ q, s.heap.size ≤ q → A q) {Qc : Array Value → State → Outcome → State → Prop} (hQ : ∀ (r : Int32) (tails : Nat → Int32) (longer : Nat → Int32) (H : Heap) (locs : List Loc), va_P (dC, dI) vwCl (wX0 ad cA nW nH ff fd cols rows ends ecost ecnt tails longer) H → va_D A (wX0 ad cA nW nH ff fd cols rows ends ecost ecnt tails longer) → va_S A s.heap H locs → Post r tails longer → ∀ t : State, t.heap = H → s.WarmedH t.vm → Qc args s (.returned (some (.int r))) t) : ∀ (n : Nat), ∀ (x2 : Int32) (x3 : Int32) (x4 : Int64) (x6 : Int32) (tails : Nat → Int32) (longer : Nat → Int32) (H : Heap) (locs : List Loc), va_P (dC, dI) vwCl (wX0 ad cA nW nH ff fd cols rows ends ecost ecnt tails longer) H → va_D A (wX0 ad cA nW nH ff fd cols rows ends ecost ecnt tails longer) → va_S A s.heap H locs → ∀ (ls : Array Slot), lv_has ls 7 [(0, .ref (ad 0)), (1, .int a1), (2, .int x2), (3, .int x3), (4, .long x4), (6, .int x6)] → lX0_plain_43 nW cols a1 Post n x2 x3 x4 x6 tails longer → W p l e ({ frames := 3, cells := 0, slots := 0, locals := 87 } : Room) s m args below meth c H locs 0 0 (MQ below Qc args s 0 0 A) (F0 m 43 ls []) := by
  have hC0 := hC
  obtain ⟨hx, hb, hr, hml, hown, hts, hlocks⟩ := hC
  intro n
  induction n with
  | zero =>
    intro x2 x3 x4 x6 tails longer H locs hP hD hS ls hl h
    exact h.elim
  | succ n hr43 =>
    intro x2 x3 x4 x6 tails longer H locs hP hD hS ls hl h
    have h : bX0_plain_43 nW cols a1 Post (lX0_plain_43 nW cols a1 Post n) x2 x3 x4 x6 tails longer := h
    unfold bX0_plain_43 at h
    refine lv_iload hx hb dX0_plain_43 (lv_at hl 5 rfl) ?_
    refine lv_iload_n hx hb dX0_plain_45 rfl (lv_at hl 3 rfl) ?_
    refine lv_icmp_gt (tgt := 63) hx hb dX0_plain_46 (by decide) (fun c => ?_) (fun c => ?_)
    · have h := h.1 c
      refine lv_iconst (v := 1) hx hb dX0_plain_63 (by decide) ?_
      refine lv_istore (lv' := [(6, .int 1), (0, .ref (ad 0)), (1, .int a1), (2, .int x2), (3, .int x3), (4, .long x4)]) hx hb dX0_plain_64 hl (by decide) rfl (fun ls hl => ?_)
      obtain ⟨n_10, h⟩ := h
      exact tX0_plain_66 hC0 hK hA hQ n_10 _ _ _ _ _ _ _ _ hP hD hS ls (lv_sub hl [1, 2, 3, 4, 5, 0] rfl) h
    · have h := h.2 c
      refine lv_aload_n hx hb dX0_plain_49 rfl (lv_at hl 0 rfl) ?_
      refine va_get (D := (dC, dI)) (ci := 1) (v := .ref (ad 6)) (C := RX0) (T := TX0) (N := 11) hx hb hts in_X0_plain hown hK hP 0 rfl rfl 9 (by decide) (hts (.fieldLink RX0 42 "SignCutter" "tails" "[I") (by decide +kernel)) (fun _ h9 => h9) rfl dX0_plain_50 ?_
      refine lv_iload hx hb dX0_plain_53 (lv_at hl 5 rfl) ?_
      refine lv_iconst (v := 1) hx hb dX0_plain_55 (by decide) ?_
      refine z_iast hx hb hK hP hD hS 6 5 rfl rfl h dX0_plain_56 (fun j_11 H locs h hP hD hS => ?_)
      have hP : va_P (dC, dI) vwCl (wX0 ad cA nW nH ff fd cols rows ends ecost ecnt (upd tails j_11 1) longer) H := hP
      have hD : va_D A (wX0 ad cA nW nH ff fd cols rows ends ecost ecnt (upd tails j_11 1) longer) := hD
      refine lv_iinc (v := (x6 + 1)) (lv' := [(6, .int (x6 + 1)), (0, .ref (ad 0)), (1, .int a1), (2, .int x2), (3, .int x3), (4, .long x4)]) hx hb dX0_plain_57 hl (k := 5) rfl rfl (by decide) rfl (fun ls hl => ?_)
      refine lv_goto (tgt := 43) hx hb dX0_plain_60 (by decide) ?_
      exact hr43 _ _ _ _ _ _ _ _ hP hD hS ls (lv_sub hl [1, 2, 3, 4, 5, 0] rfl) h
set_option maxHeartbeats 4000000 in
set_option maxRecDepth 100000 in
theorem mX0_plain (l : Launch) {dC : Nat → ClassId} {dI : Nat → Nat → Nat} {ad : Nat → Nat} {cA : Nat → ClassId} {nW : Nat} {nH : Nat} {ff : Int32} {fd : Int32} {cols : Nat → Int64} {rows : Nat → Int64} {ends : Nat → Int64} {ecost : Nat → Int32} {ecnt : Nat → Int32} {tails : Nat → Int32} {longer : Nat → Int32} {sz : Nat} {a1 : Int32} {Post : Int32 → (Nat → Int32) → (Nat → Int32) → Prop} (h : wX0_plain nW cols tails longer a1 Post) : Met l yX0_plain wsX0_plain ({ frames := 3, cells := 0, slots := 0, locals := 87 } : Room) (zPw (dC, dI) vwCl (tX0 cA) (wX0 ad cA nW nH ff fd cols rows ends ecost ecnt tails longer) sz [.ref (ad 0), .int a1]) (va_Qi (S := (Nat → Int32) × (Nat → Int32)) (fun (r : Int32) (u : (Nat → Int32) × (Nat → Int32)) => Post r u.1 u.2) (zB (dC, dI) vwCl (tX0 cA) (wX0 ad cA nW nH ff fd cols rows ends ecost ecnt tails longer) sz (fun u : (Nat → Int32) × (Nat → Int32) => wX0 ad cA nW nH ff fd cols rows ends ecost ecnt u.1 u.2)) (va_A (wX0 ad cA nW nH ff fd cols rows ends ecost ecnt tails longer) sz)) 0 0 (va_A (wX0 ad cA nW nH ff fd cols rows ends ecost ecnt tails longer) sz) := by
  refine Met.ofW (cc := cX0_plain) (maxL := 7) (ret := (some .int)) (by decide) rfl ?_
  intro p e s m args below meth c s₁ B hml hv
  obtain ⟨rfl, hsz, hP, hK, hD0⟩ := hv
  have hC : zC p s m [.ref (ad 0), .int a1].toArray meth c cX0_plain wsX0_plain (some .int) 7 RX0 := ⟨B.exec, B.bytes, B.returns, hml, findClass_of_methodNamed B.named, atoms_spec (ws := wsX0_plain) B.pre, B.notSynchronized⟩
  have hC0 := hC
  obtain ⟨hx, hb, hr, hml, hown, hts, hlocks⟩ := hC
  subst hsz
  have hD := hD0.self (sz := s.heap.size)
  have hA : ∀ q : Nat, s.heap.size ≤ q → va_A (wX0 ad cA nW nH ff fd cols rows ends ecost ecnt tails longer) s.heap.size q := fun q h => Or.inr h
  have hS : va_S (va_A (wX0 ad cA nW nH ff fd cols rows ends ecost ecnt tails longer) s.heap.size) s.heap s.heap [] := va_S.rf
  generalize hQe : (va_Qi (S := (Nat → Int32) × (Nat → Int32)) (fun (r : Int32) (u : (Nat → Int32) × (Nat → Int32)) => Post r u.1 u.2) (zB (dC, dI) vwCl (tX0 cA) (wX0 ad cA nW nH ff fd cols rows ends ecost ecnt tails longer) s.heap.size (fun u : (Nat → Int32) × (Nat → Int32) => wX0 ad cA nW nH ff fd cols rows ends ecost ecnt u.1 u.2)) (va_A (wX0 ad cA nW nH ff fd cols rows ends ecost ecnt tails longer) s.heap.size)) = Qc
  generalize hAe : va_A (wX0 ad cA nW nH ff fd cols rows ends ecost ecnt tails longer) s.heap.size = A at hD hA hS hQe ⊢
  have hQ : ∀ (r : Int32) (tails : Nat → Int32) (longer : Nat → Int32) (H : Heap) (locs : List Loc), va_P (dC, dI) vwCl (wX0 ad cA nW nH ff fd cols rows ends ecost ecnt tails longer) H → va_D A (wX0 ad cA nW nH ff fd cols rows ends ecost ecnt tails longer) → va_S A s.heap H locs → Post r tails longer → ∀ t : State, t.heap = H → s.WarmedH t.vm → Qc [.ref (ad 0), .int a1].toArray s (.returned (some (.int r))) t := by
    intro r tails longer H locs hP hD hS h t ht hW
    rw [← hQe]
    exact ⟨⟨r, (tails, longer), rfl, h, by rw [ht]; exact hP, va_K.moved hW.alike hK, hAe ▸ hD⟩, hS.F ht⟩
  clear hQe hAe
  have hl := lv_entry ([.ref (ad 0), .int a1]) (n := 7) (Nat.le_of_ble_eq_true rfl)
  rw [lg_entry_eq]
  generalize (lg_sl ([.ref (ad 0), .int a1]) ++ List.replicate (7 - (lg_sl ([.ref (ad 0), .int a1])).length) Slot.unset).toArray = ls at hl ⊢
  have hl : lv_has ls 7 [(0, .ref (ad 0)), (1, .int a1)] := hl
  show W p l e ({ frames := 3, cells := 0, slots := 0, locals := 87 } : Room) s m _ below meth c s.heap [] 0 0 (MQ below Qc _ s 0 0 A) (F0 m 0 ls [])
  unfold wX0_plain at h
  refine lv_aload_n hx hb dX0_plain_0 rfl (lv_at hl 0 rfl) ?_
  refine z_cVi (ci := 1) (As := []) (rest := []) ⟨hx, hb, hml, hown, hts⟩ (mX0_firstDarkColumn l h) (cwV 0 hts gX0_plain_X0_firstDarkColumn rfl rfl rfl (by decide +kernel) ⟨Nat.le_of_ble_eq_true rfl, Nat.le_of_ble_eq_true rfl⟩) hK hP 0 rfl rfl rfl rfl hl.1 rfl (Nat.le_of_ble_eq_true rfl) dX0_plain_1 ⟨Nat.le_of_ble_eq_true rfl, Nat.le_of_ble_eq_true rfl⟩ (fun r_1 h => ?_)
  refine lv_istore_n (lv' := [(2, .int r_1), (0, .ref (ad 0)), (1, .int a1)]) hx hb dX0_plain_4 rfl hl (by decide) rfl (fun ls hl => ?_)
  refine lv_iload_n hx hb dX0_plain_5 rfl (lv_at hl 0 rfl) ?_
  refine lv_iconst (v := (-1)) hx hb dX0_plain_6 (by decide) ?_
  refine lv_icmp_eq (tgt := 23) hx hb dX0_plain_7 (by decide) (fun c => ?_) (fun c => ?_)
  · have h := h.1 c
    refine lv_iconst (v := 0) hx hb dX0_plain_23 (by decide) ?_
    exact W.iret (v := 0) hx hb hr (hQ _ _ _ _ _ hP hD hS h) hS.2.2 dX0_plain_24
  · have h := h.2 c
    refine lv_iload_n hx hb dX0_plain_10 rfl (lv_at hl 2 rfl) ?_
    refine lv_iconst (v := 1) hx hb dX0_plain_11 (by decide) ?_
    refine lv_icmp_lt (tgt := 23) hx hb dX0_plain_12 (by decide) (fun c => ?_) (fun c => ?_)
    · have h := h.1 c
      refine lv_iconst (v := 0) hx hb dX0_plain_23 (by decide) ?_
      exact W.iret (v := 0) hx hb hr (hQ _ _ _ _ _ hP hD hS h) hS.2.2 dX0_plain_24
    · have h := h.2 c
      refine lv_iload_n hx hb dX0_plain_15 rfl (lv_at hl 2 rfl) ?_
      refine lv_aload_n hx hb dX0_plain_16 rfl (lv_at hl 1 rfl) ?_
      refine va_get (D := (dC, dI)) (ci := 1) (v := .int (nI nW)) (C := RX0) (T := TX0) (N := 11) hx hb hts in_X0_plain hown hK hP 0 rfl rfl 0 (by decide) (hts (.fieldLink RX0 18 "SignCutter" "width" "I") (by decide +kernel)) (fun _ h9 => h9) rfl dX0_plain_17 ?_
      refine lv_icmp_le (tgt := 25) hx hb dX0_plain_20 (by decide) (fun c => ?_) (fun c => ?_)
      · have h := h.1 c
        refine lv_aload_n hx hb dX0_plain_25 rfl (lv_at hl 1 rfl) ?_
        refine z_cVi (ci := 1) (As := []) (rest := []) ⟨hx, hb, hml, hown, hts⟩ (mX0_lastDarkColumn l h) (cwV 0 hts gX0_plain_X0_lastDarkColumn rfl rfl rfl (by decide +kernel) ⟨Nat.le_of_ble_eq_true rfl, Nat.le_of_ble_eq_true rfl⟩) hK hP 0 rfl rfl rfl rfl hl.1 rfl (Nat.le_of_ble_eq_true rfl) dX0_plain_26 ⟨Nat.le_of_ble_eq_true rfl, Nat.le_of_ble_eq_true rfl⟩ (fun r_2 h => ?_)
        refine lv_iconst (v := 1) hx hb dX0_plain_29 (by decide) ?_
        refine lv_iadd hx hb dX0_plain_30 ?_
        refine lv_topi (fun x3_3 ex3_3 => ?_)
        have h := h x3_3 ex3_3
        refine lv_istore_n (lv' := [(3, .int x3_3), (2, .int r_1), (0, .ref (ad 0)), (1, .int a1)]) hx hb dX0_plain_31 rfl hl (by decide) rfl (fun ls hl => ?_)
        refine lv_aload_n hx hb dX0_plain_32 rfl (lv_at hl 2 rfl) ?_
        refine lv_iload_n hx hb dX0_plain_33 rfl (lv_at hl 1 rfl) ?_
        refine lv_iload_n hx hb dX0_plain_34 rfl (lv_at hl 0 rfl) ?_
        refine z_cVl (ci := 1) (As := [.int r_1, .int x3_3]) (rest := []) ⟨hx, hb, hml, hown, hts⟩ (mX0_placesToCut l h) (cwV 2 hts gX0_plain_X0_placesToCut rfl rfl rfl (by decide +kernel) ⟨Nat.le_of_ble_eq_true rfl, Nat.le_of_ble_eq_true rfl⟩) hK hP 0 rfl rfl rfl rfl hl.1 rfl (Nat.le_of_ble_eq_true rfl) dX0_plain_35 ⟨Nat.le_of_ble_eq_true rfl, Nat.le_of_ble_eq_true rfl⟩ (fun r_4 h => ?_)
        refine lv_lstore (lv' := [(4, .long r_4), (3, .int x3_3), (2, .int r_1), (0, .ref (ad 0)), (1, .int a1)]) hx hb dX0_plain_38 hl (by decide) rfl (fun ls hl => ?_)
        refine lv_iconst (v := 0) hx hb dX0_plain_40 (by decide) ?_
        refine lv_istore (lv' := [(6, .int 0), (4, .long r_4), (3, .int x3_3), (2, .int r_1), (0, .ref (ad 0)), (1, .int a1)]) hx hb dX0_plain_41 hl (by decide) rfl (fun ls hl => ?_)
        obtain ⟨n_12, h⟩ := h
        exact tX0_plain_43 hC0 hK hA hQ n_12 _ _ _ _ _ _ _ _ hP hD hS ls (lv_sub hl [4, 5, 3, 2, 1, 0] rfl) h
      · have h := h.2 c
        refine lv_iconst (v := 0) hx hb dX0_plain_23 (by decide) ?_
        exact W.iret (v := 0) hx hb hr (hQ _ _ _ _ _ hP hD hS h) hS.2.2 dX0_plain_24
