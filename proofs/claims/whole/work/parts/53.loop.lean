/-! ===== the law's column, and its rounds ===== -/
def bz (v : Int32) : Int32 := if v = 0 then 0 else 1
theorem bz_Z (v : Int32) : pZ (bz v) := by
  unfold bz pZ
  by_cases h : v = 0
  · rw [if_pos h]
    exact Or.inl rfl
  · rw [if_neg h]
    exact Or.inr rfl
theorem bz_0 {v : Int32} (h : v = 0) : 0 = bz v := by unfold bz; rw [if_pos h]
theorem bz_1 {v : Int32} (h : ¬ v = 0) : 1 = bz v := by unfold bz; rw [if_neg h]
theorem zgL_law : GoodIn lw_tbl wsLT := by
  refine goodIn_app (fun w hw => ⟨wsL_law_in w (ggL_law_L_column w hw).1, (ggL_law_L_column w hw).2⟩) (goodIn_app zOwnG_in (goodIn_r _ [221] (by decide +kernel) (by decide +kernel)))
theorem col_both {nW nH : Nat} {d : Nat → Nat → Bool} {lq : Sh (List Nat)} {ff fd : Int32} {cols rows ends : Nat → Int64} {ecost : Nat → Int32} {fn : Int32} {dk : Nat → Int32} {pr : Nat → Int64} {ln wy : Nat → Int32} (hs : szs nW nH) (h0 : Inv0 nW nH d lq ff fd cols rows ends ecost) (h1 : Inv1 nW nH d lq fn dk pr ln wy) (a1 a2 a3 : Int32) (h3 : pZ a3) :
    ∃ (v : Int32) (d' : Nat → Nat → Bool), wL_column nW nH cols rows a1 a2 a3 (fun r c' r' => r = v ∧ Inv0 nW nH d' lq ff fd c' r' ends ecost) ∧ ∀ th : Int32, wX1_column nW nH th dk a1 a2 a3 (fun th' dk' => th' = v ∧ Inv1 nW nH d' lq fn dk' pr ln wy) := by
  by_cases hin : inS nW nH a1 a2
  · obtain ⟨x, y, e1, e2, hx, hy⟩ := inS_ex hs hin
    subst e1; subst e2
    exact ⟨0, setD d x y (nz a3), ⟨fun _ => ok0_column hs h0.1 hx hy (fun _ _ hc => ⟨rfl, hc, h0.2⟩), fun q => absurd hin q⟩, fun th => ok1_columnIn hs h1.1 hx hy h3 (fun _ hc => ⟨rfl, hc, h1.2⟩)⟩
  · exact ⟨1, d, ⟨fun q => absurd q hin, fun _ => ⟨rfl, h0⟩⟩, fun th => ok1_columnOut hin ⟨rfl, h1⟩⟩
set_option maxHeartbeats 4000000 in
set_option maxRecDepth 100000 in
theorem law_col {p : Program} {l : Launch} (hfl : l.flags = pinnedFlags ++ [noTraceFlag]) {e : Env} {s : State} {m : MethodId} {below : List Frame} {meth : Method} {c : Code} {b L j : Nat} {xs : Nat → Int32} (hL : L ≤ 2050) (C0 : lw_At p s m meth c b L xs) {dC : Nat → ClassId} {dI : Nat → Nat → Nat} {ad0 ad1 : Nat → Nat} {cA0 cA1 : Nat → ClassId} {nW nH : Nat} (hs : szs nW nH) (hK0 : va_K (dC, dI) vwCl (tX0 cA0) s) (hK1 : va_K (dC, dI) vwCl (tX1 cA1) s) (hj : 2 + 4 * j + 4 ≤ L) {d : Nat → Nat → Bool} {lq : Sh (List Nat)} (ho : okL nW lq) {w0 w1 : va_W} (g0 : G0 ad0 cA0 nW nH d lq w0) (g1 : G1 ad1 cA1 nW nH d lq w1) {A : Nat → Prop} (hA : ∀ q, s.heap.size ≤ q → A q) (hbA : ¬ A b) {tq : Nat} (hZ : zX tq A s s.heap) {H : Heap} {locs : List Loc} {cells slots : Nat} (hcs : cells + 1 ≤ 601024 ∧ slots + 6 ≤ 7293000) (hP : va_P (dC, dI) vwCl (w0 ++ w1) H) (hD : va_D A (w0 ++ w1)) (hS : va_S A s.heap H locs) {ls : Array Slot} (hl : lv_has ls 5 [(0, .ref b), (1, .ref (ad0 0)), (2, .ref (ad1 0)), (3, .int (nI (2 + 4 * j)))]) {Q : State → Prop}
    (hend : ∀ (d : Nat → Nat → Bool) (lq : Sh (List Nat)) (w0 w1 : va_W) (H : Heap) (locs : List Loc) (ls : Array Slot), okL nW lq → G0 ad0 cA0 nW nH d lq w0 → G1 ad1 cA1 nW nH d lq w1 → va_P (dC, dI) vwCl (w0 ++ w1) H → va_D A (w0 ++ w1) → va_S A s.heap H locs → lv_has ls 5 [(0, .ref b), (1, .ref (ad0 0)), (2, .ref (ad1 0)), (3, .int (nI (2 + 4 * j)))] → W p l e room_1 s m #[Value.ref b] below meth c H locs (cells + 1) (slots + 6) Q (F0 m 332 ls [])) : W p l e room_1 s m #[Value.ref b] below meth c H locs cells slots Q (F0 m 100 ls []) := by
  obtain ⟨hx, hb, hr, hml, hown, htb, hX, hbl, hlocks, -⟩ := C0
  have hts : ∀ w ∈ wsL_law, w.before _ s = true := fun w hw => htb w (wsL_law_in w hw)
  obtain ⟨ff, fd, cols, rows, ends, ecost, ecnt, tails, longer, rfl, hI0⟩ := g0
  obtain ⟨th, fn, wd, dk, mn, cs, nx, gs, pr, ln, wy, ct, bf, sg, my, rfl, hI1⟩ := g1
  obtain ⟨v, d2, hc0, hc1⟩ := col_both hs hI0 hI1 (xs (2 + 4 * j + 1)) (xs (2 + 4 * j + 2)) (bz (xs (2 + 4 * j + 3))) (bz_Z _)
  refine lv_aload_n hx hb dL_law_100 rfl (lv_at hl 1 rfl) ?_
  refine lv_aload_n hx hb dL_law_101 rfl (lv_at hl 0 rfl) ?_
  refine lv_iload_n hx hb dL_law_102 rfl (lv_at hl 3 rfl) ?_
  refine lv_iconst (v := 1) hx hb dL_law_103 (by decide) ?_
  refine lv_iadd hx hb dL_law_104 ?_
  refine z_sld (k := 2 + 4 * j + 1) hx hb hX hbl hbA hS (nI_add _ 1) (by omega) hL dL_law_105 ?_
  refine lv_aload_n hx hb dL_law_106 rfl (lv_at hl 0 rfl) ?_
  refine lv_iload_n hx hb dL_law_107 rfl (lv_at hl 3 rfl) ?_
  refine lv_iconst (v := 2) hx hb dL_law_108 (by decide) ?_
  refine lv_iadd hx hb dL_law_109 ?_
  refine z_sld (k := 2 + 4 * j + 2) hx hb hX hbl hbA hS (nI_add _ 2) (by omega) hL dL_law_110 ?_
  refine lv_aload_n hx hb dL_law_111 rfl (lv_at hl 0 rfl) ?_
  refine lv_iload_n hx hb dL_law_112 rfl (lv_at hl 3 rfl) ?_
  refine lv_iconst (v := 3) hx hb dL_law_113 (by decide) ?_
  refine lv_iadd hx hb dL_law_114 ?_
  refine z_sld (k := 2 + 4 * j + 3) hx hb hX hbl hbA hS (nI_add _ 3) (by omega) hL dL_law_115 ?_
  refine z_at (g := F0 m 124 ls [.int (bz (xs (2 + 4 * j + 3))), .int (xs (2 + 4 * j + 2)), .int (xs (2 + 4 * j + 1)), .ref (ad0 0)]) (fun hput => ?_) ?_
  · refine lv_if_eq (tgt := 123) hx hb dL_law_116 (by decide) (fun q => ?_) (fun q => ?_)
    · refine lv_iconst (v := 0) hx hb dL_law_123 (by decide) ?_
      exact W.eq (by rw [bz_0 q]) hput
    · refine lv_iconst (v := 1) hx hb dL_law_119 (by decide) ?_
      refine lv_goto (tgt := 124) hx hb dL_law_120 (by decide) ?_
      exact W.eq (by rw [bz_1 q]) hput
  refine z_l0c (hh := [(0, 7, 10, 13)]) (bytes := cL_column) (maxL := 5) (ret := some .int) (n := 4) (As := [.ref (ad0 0), .int (xs (2 + 4 * j + 1)), .int (xs (2 + 4 * j + 2)), .int (bz (xs (2 + 4 * j + 3)))]) (rest := []) ⟨hx, hb, hml, hown, htb⟩ (mL_column hfl (tq := tq) hc0) zgL_law (List.mem_append_left _ List.mem_cons_self) rfl rfl ⟨Nat.le_of_ble_eq_true rfl, Nat.le_of_ble_eq_true rfl⟩ (hts (.methodLink RL 27 yL_column) (gL_law_L_column _ (by simp [va_wsS])).1) (hts (.static yL_column) (gL_law_L_column _ (by simp [va_wsS])).1) (hts (.initialized RL) (gL_law_L_column _ (by simp [va_wsS, yL_column])).1) (by decide +kernel) hK0 hP hD hS hA (hZ.kept (fun a h1 h2 => hS.2.1 a h1 h2)) rfl hl.1 rfl (Nat.le_of_ble_eq_true rfl) dL_law_124 hcs (fun r0 u0 H locs e0 hP hD hS => ?_)
  obtain ⟨e0, hI0⟩ := e0
  refine lv_istore (lv' := [(4, .int r0), (0, .ref b), (1, .ref (ad0 0)), (2, .ref (ad1 0)), (3, .int (nI (2 + 4 * j)))]) hx hb dL_law_127 hl (by decide) rfl (fun ls hl => ?_)
  refine lv_aload_n hx hb dL_law_129 rfl (lv_at hl 3 rfl) ?_
  refine lv_aload_n hx hb dL_law_130 rfl (lv_at hl 1 rfl) ?_
  refine lv_iload_n hx hb dL_law_131 rfl (lv_at hl 4 rfl) ?_
  refine lv_iconst (v := 1) hx hb dL_law_132 (by decide) ?_
  refine lv_iadd hx hb dL_law_133 ?_
  refine z_sld (k := 2 + 4 * j + 1) hx hb hX hbl hbA hS (nI_add _ 1) (by omega) hL dL_law_134 ?_
  refine lv_aload_n hx hb dL_law_135 rfl (lv_at hl 1 rfl) ?_
  refine lv_iload_n hx hb dL_law_136 rfl (lv_at hl 4 rfl) ?_
  refine lv_iconst (v := 2) hx hb dL_law_137 (by decide) ?_
  refine lv_iadd hx hb dL_law_138 ?_
  refine z_sld (k := 2 + 4 * j + 2) hx hb hX hbl hbA hS (nI_add _ 2) (by omega) hL dL_law_139 ?_
  refine lv_aload_n hx hb dL_law_140 rfl (lv_at hl 1 rfl) ?_
  refine lv_iload_n hx hb dL_law_141 rfl (lv_at hl 4 rfl) ?_
  refine lv_iconst (v := 3) hx hb dL_law_142 (by decide) ?_
  refine lv_iadd hx hb dL_law_143 ?_
  refine z_sld (k := 2 + 4 * j + 3) hx hb hX hbl hbA hS (nI_add _ 3) (by omega) hL dL_law_144 ?_
  refine z_at (g := F0 m 153 ls [.int (bz (xs (2 + 4 * j + 3))), .int (xs (2 + 4 * j + 2)), .int (xs (2 + 4 * j + 1)), .ref (ad1 0)]) (fun hput => ?_) ?_
  · refine lv_if_eq (tgt := 152) hx hb dL_law_145 (by decide) (fun q => ?_) (fun q => ?_)
    · refine lv_iconst (v := 0) hx hb dL_law_152 (by decide) ?_
      exact W.eq (by rw [bz_0 q]) hput
    · refine lv_iconst (v := 1) hx hb dL_law_148 (by decide) ?_
      refine lv_goto (tgt := 153) hx hb dL_law_149 (by decide) ?_
      exact W.eq (by rw [bz_1 q]) hput
  refine z_l1v (ci := 2) (As := [.int (xs (2 + 4 * j + 1)), .int (xs (2 + 4 * j + 2)), .int (bz (xs (2 + 4 * j + 3)))]) (rest := []) ⟨hx, hb, hml, hown, hts⟩ (mX1_column l (hc1 th)) (cwV 3 hts gL_law_X1_column rfl rfl rfl (by decide +kernel) ⟨Nat.le_of_ble_eq_true rfl, Nat.le_of_ble_eq_true rfl⟩) hK1 hP hD hS hA 0 rfl rfl rfl rfl hl.1 rfl (Nat.le_of_ble_eq_true rfl) dL_law_153 hcs (fun u1 H locs e1 hP hD hS => ?_)
  obtain ⟨e1, hI1⟩ := e1
  refine lv_aload_n hx hb dL_law_156 rfl (lv_at hl 3 rfl) ?_
  refine z_cVi (ci := 2) (As := []) (rest := []) ⟨hx, hb, hml, hown, hts⟩ (mX1_thrown l (Post := fun r => r = v) e1) (cwV 0 hts gL_law_X1_thrown rfl rfl rfl (by decide +kernel) ⟨Nat.le_of_ble_eq_true rfl, Nat.le_of_ble_eq_true rfl⟩) hK1 (vaP_r hP) 0 rfl rfl rfl rfl hl.1 rfl (Nat.le_of_ble_eq_true rfl) dL_law_157 hcs (fun r1 e2 => ?_)
  refine lv_iload hx hb dL_law_160 (lv_at hl 0 rfl) ?_
  refine lv_icmp_eq (tgt := 167) hx hb dL_law_162 (by decide) (fun _ => ?_) (fun q => absurd (e2.trans e0.symm) q)
  refine lv_goto (tgt := 332) hx hb dL_law_167 (by decide) ?_
  exact hend _ _ _ _ _ _ ls ho ⟨_, _, _, _, _, _, _, _, _, rfl, hI0⟩ ⟨_, _, _, _, _, _, _, _, _, _, _, _, _, _, _, rfl, hI1⟩ hP hD hS (lv_sub hl [1, 2, 3, 4] rfl)
