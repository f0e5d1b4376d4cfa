/-! ===== PRINTED BY wip/gen/law.py: the calls of the law whose answers are compared ===== -/
section ZS
variable {p : Program} {l : Launch} {e : Env} {R : Room} {s : State} {m : MethodId} {args : Array Value} {below : List Frame} {meth : Method} {c : Code} {H : Heap} {locs : List Loc} {cells slots : Nat} {Q : State → Prop}
variable {cc : ByteArray} {pc : Nat} {ls : Array Slot} {rest : List Value} {A : Nat → Prop}
theorem z_sld (hexec : p.tables.exec = Jvm.exec) (hb : c.code = cc) {b L : Nat} {xs : Nat → Int32} (hX : va_X b L xs s s.heap) (hbl : b < s.heap.size) (hbA : ¬ A b) (hS : va_S A s.heap H locs) {i : Int32} {k : Nat} (hi : i = nI k) (hk : k < L) (hL : L ≤ 2050) (hdg : decode cc pc = .ok (.iaload, 1))
    (kk : W p l e R s m args below meth c H locs cells slots Q (F0 m (pc + 1) ls (.int (xs k) :: rest))) : W p l e R s m args below meth c H locs cells slots Q (F0 m pc ls (.int i :: .ref b :: rest)) := by
  refine va_sld hexec hb hX hbl hbA hS (z_in hi hk (by omega)) hdg ?_
  subst hi
  rw [nI_clamp (by omega)]
  exact kk
end ZS
set_option maxHeartbeats 4000000 in
set_option maxRecDepth 100000 in
theorem law_cut {p : Program} {l : Launch} {e : Env} {s : State} {m : MethodId} {below : List Frame} {meth : Method} {c : Code} {b L j : Nat} {xs : Nat → Int32} (hL : L ≤ 2050) (C0 : lw_At p s m meth c b L xs) {dC : Nat → ClassId} {dI : Nat → Nat → Nat} {ad0 ad1 : Nat → Nat} {cA0 cA1 : Nat → ClassId} {nW nH : Nat} (hs : szs nW nH) (hK0 : va_K (dC, dI) vwCl (tX0 cA0) s) (hK1 : va_K (dC, dI) vwCl (tX1 cA1) s) (hj : 2 + 4 * j + 4 ≤ L) {d : Nat → Nat → Bool} {lq : Sh (List Nat)} (ho : okL nW lq) {w0 w1 : va_W} (g0 : G0 ad0 cA0 nW nH d lq w0) (g1 : G1 ad1 cA1 nW nH d lq w1) {A : Nat → Prop} (hA : ∀ q, s.heap.size ≤ q → A q) (hbA : ¬ A b) {H : Heap} {locs : List Loc} {cells slots : Nat} (hcs : cells ≤ 601024 ∧ slots ≤ 7293000) (hP : va_P (dC, dI) vwCl (w0 ++ w1) H) (hD : va_D A (w0 ++ w1)) (hS : va_S A s.heap H locs) {ls : Array Slot} (hl : lv_has ls 5 [(0, .ref b), (1, .ref (ad0 0)), (2, .ref (ad1 0)), (3, .int (nI (2 + 4 * j)))]) {Q : State → Prop}
    (hend : ∀ (d : Nat → Nat → Bool) (lq : Sh (List Nat)) (w0 w1 : va_W) (H : Heap) (locs : List Loc), okL nW lq → G0 ad0 cA0 nW nH d lq w0 → G1 ad1 cA1 nW nH d lq w1 → va_P (dC, dI) vwCl (w0 ++ w1) H → va_D A (w0 ++ w1) → va_S A s.heap H locs → W p l e room_1 s m #[Value.ref b] below meth c H locs cells slots Q (F0 m 332 ls [])) : W p l e room_1 s m #[Value.ref b] below meth c H locs cells slots Q (F0 m 170 ls []) := by
  obtain ⟨hx, hb, hr, hml, hown, htb, hX, hbl, hlocks, -⟩ := C0
  have hts : ∀ w ∈ wsL_law, w.before _ s = true := fun w hw => htb w (wsL_law_in w hw)
  obtain ⟨ff, fd, cols, rows, ends, ecost, ecnt, tails, longer, rfl, hI0⟩ := g0
  obtain ⟨th, fn, wd, dk, mn, cs, nx, gs, pr, ln, wy, ct, bf, sg, my, rfl, hI1⟩ := g1
  refine lv_aload_n hx hb dL_law_170 rfl (lv_at hl 1 rfl) ?_
  refine lv_aload_n hx hb dL_law_171 rfl (lv_at hl 0 rfl) ?_
  refine lv_iload_n hx hb dL_law_172 rfl (lv_at hl 3 rfl) ?_
  refine lv_iconst (v := 1) hx hb dL_law_173 (by decide) ?_
  refine lv_iadd hx hb dL_law_174 ?_
  refine z_sld (k := 2 + 4 * j + 1) hx hb hX hbl hbA hS (nI_add _ 1) (by omega) hL dL_law_175 ?_
  refine z_l0i (ci := 1) (As := [.int (xs (2 + 4 * j + 1))]) (rest := []) ⟨hx, hb, hml, hown, hts⟩ (mX0_cut l (inv0_cut hs hI0)) (cwV 1 hts gL_law_X0_cut rfl rfl rfl (by decide +kernel) ⟨Nat.le_of_ble_eq_true rfl, Nat.le_of_ble_eq_true rfl⟩) hK0 hP hD hS hA 0 rfl rfl rfl rfl hl.1 rfl (Nat.le_of_ble_eq_true rfl) dL_law_176 hcs (fun r0 u0 H locs e0 hP hD hS => ?_)
  obtain ⟨e0, hI0⟩ := e0
  refine lv_aload_n hx hb dL_law_179 rfl (lv_at hl 2 rfl) ?_
  refine lv_aload_n hx hb dL_law_180 rfl (lv_at hl 0 rfl) ?_
  refine lv_iload_n hx hb dL_law_181 rfl (lv_at hl 3 rfl) ?_
  refine lv_iconst (v := 1) hx hb dL_law_182 (by decide) ?_
  refine lv_iadd hx hb dL_law_183 ?_
  refine z_sld (k := 2 + 4 * j + 1) hx hb hX hbl hbA hS (nI_add _ 1) (by omega) hL dL_law_184 ?_
  refine z_l1i (ci := 2) (As := [.int (xs (2 + 4 * j + 1))]) (rest := [.int r0]) ⟨hx, hb, hml, hown, hts⟩ (mX1_cut l (inv1_cut hs hI1)) (cwV 1 hts gL_law_X1_cut rfl rfl rfl (by decide +kernel) ⟨Nat.le_of_ble_eq_true rfl, Nat.le_of_ble_eq_true rfl⟩) hK1 hP hD hS hA 0 rfl rfl rfl rfl hl.1 rfl (Nat.le_of_ble_eq_true rfl) dL_law_185 hcs (fun r1 u1 H locs e1 hP hD hS => ?_)
  obtain ⟨e1, hI1⟩ := e1
  exact lv_icmp_eq (tgt := 332) hx hb dL_law_188 (by decide) (fun _ => hend _ _ _ _ _ _ (okL_cut hs ho _) ⟨_, _, _, _, _, _, _, _, _, rfl, hI0⟩ ⟨_, _, _, _, _, _, _, _, _, _, _, _, _, _, _, rfl, hI1⟩ hP hD hS) (fun q => absurd (e0.trans e1.symm) q)
set_option maxHeartbeats 4000000 in
set_option maxRecDepth 100000 in
theorem law_way {p : Program} {l : Launch} {e : Env} {s : State} {m : MethodId} {below : List Frame} {meth : Method} {c : Code} {b L j : Nat} {xs : Nat → Int32} (hL : L ≤ 2050) (C0 : lw_At p s m meth c b L xs) {dC : Nat → ClassId} {dI : Nat → Nat → Nat} {ad0 ad1 : Nat → Nat} {cA0 cA1 : Nat → ClassId} {nW nH : Nat} (hs : szs nW nH) (hK0 : va_K (dC, dI) vwCl (tX0 cA0) s) (hK1 : va_K (dC, dI) vwCl (tX1 cA1) s) (hj : 2 + 4 * j + 4 ≤ L) {d : Nat → Nat → Bool} {lq : Sh (List Nat)} (ho : okL nW lq) {w0 w1 : va_W} (g0 : G0 ad0 cA0 nW nH d lq w0) (g1 : G1 ad1 cA1 nW nH d lq w1) {A : Nat → Prop} (hA : ∀ q, s.heap.size ≤ q → A q) (hbA : ¬ A b) {H : Heap} {locs : List Loc} {cells slots : Nat} (hcs : cells ≤ 601024 ∧ slots ≤ 7293000) (hP : va_P (dC, dI) vwCl (w0 ++ w1) H) (hD : va_D A (w0 ++ w1)) (hS : va_S A s.heap H locs) {ls : Array Slot} (hl : lv_has ls 5 [(0, .ref b), (1, .ref (ad0 0)), (2, .ref (ad1 0)), (3, .int (nI (2 + 4 * j)))]) {Q : State → Prop}
    (hend : ∀ (d : Nat → Nat → Bool) (lq : Sh (List Nat)) (w0 w1 : va_W) (H : Heap) (locs : List Loc), okL nW lq → G0 ad0 cA0 nW nH d lq w0 → G1 ad1 cA1 nW nH d lq w1 → va_P (dC, dI) vwCl (w0 ++ w1) H → va_D A (w0 ++ w1) → va_S A s.heap H locs → W p l e room_1 s m #[Value.ref b] below meth c H locs cells slots Q (F0 m 332 ls [])) : W p l e room_1 s m #[Value.ref b] below meth c H locs cells slots Q (F0 m 193 ls []) := by
  obtain ⟨hx, hb, hr, hml, hown, htb, hX, hbl, hlocks, -⟩ := C0
  have hts : ∀ w ∈ wsL_law, w.before _ s = true := fun w hw => htb w (wsL_law_in w hw)
  obtain ⟨ff, fd, cols, rows, ends, ecost, ecnt, tails, longer, rfl, hI0⟩ := g0
  obtain ⟨th, fn, wd, dk, mn, cs, nx, gs, pr, ln, wy, ct, bf, sg, my, rfl, hI1⟩ := g1
  refine lv_aload_n hx hb dL_law_193 rfl (lv_at hl 1 rfl) ?_
  refine lv_aload_n hx hb dL_law_194 rfl (lv_at hl 0 rfl) ?_
  refine lv_iload_n hx hb dL_law_195 rfl (lv_at hl 3 rfl) ?_
  refine lv_iconst (v := 1) hx hb dL_law_196 (by decide) ?_
  refine lv_iadd hx hb dL_law_197 ?_
  refine z_sld (k := 2 + 4 * j + 1) hx hb hX hbl hbA hS (nI_add _ 1) (by omega) hL dL_law_198 ?_
  refine lv_aload_n hx hb dL_law_199 rfl (lv_at hl 0 rfl) ?_
  refine lv_iload_n hx hb dL_law_200 rfl (lv_at hl 3 rfl) ?_
  refine lv_iconst (v := 2) hx hb dL_law_201 (by decide) ?_
  refine lv_iadd hx hb dL_law_202 ?_
  refine z_sld (k := 2 + 4 * j + 2) hx hb hX hbl hbA hS (nI_add _ 2) (by omega) hL dL_law_203 ?_
  refine z_cVi (ci := 1) (As := [.int (xs (2 + 4 * j + 1)), .int (xs (2 + 4 * j + 2))]) (rest := []) ⟨hx, hb, hml, hown, hts⟩ (mX0_way l (ok0_way hs.2.1 ho hI0.2 (Post := fun r => r = aWay lq _ _) rfl)) (cwV 2 hts gL_law_X0_way rfl rfl rfl (by decide +kernel) ⟨Nat.le_of_ble_eq_true rfl, Nat.le_of_ble_eq_true rfl⟩) hK0 (vaP_l hP) 0 rfl rfl rfl rfl hl.1 rfl (Nat.le_of_ble_eq_true rfl) dL_law_204 hcs (fun r0 e0 => ?_)
  refine lv_aload_n hx hb dL_law_207 rfl (lv_at hl 2 rfl) ?_
  refine lv_aload_n hx hb dL_law_208 rfl (lv_at hl 0 rfl) ?_
  refine lv_iload_n hx hb dL_law_209 rfl (lv_at hl 3 rfl) ?_
  refine lv_iconst (v := 1) hx hb dL_law_210 (by decide) ?_
  refine lv_iadd hx hb dL_law_211 ?_
  refine z_sld (k := 2 + 4 * j + 1) hx hb hX hbl hbA hS (nI_add _ 1) (by omega) hL dL_law_212 ?_
  refine lv_aload_n hx hb dL_law_213 rfl (lv_at hl 0 rfl) ?_
  refine lv_iload_n hx hb dL_law_214 rfl (lv_at hl 3 rfl) ?_
  refine lv_iconst (v := 2) hx hb dL_law_215 (by decide) ?_
  refine lv_iadd hx hb dL_law_216 ?_
  refine z_sld (k := 2 + 4 * j + 2) hx hb hX hbl hbA hS (nI_add _ 2) (by omega) hL dL_law_217 ?_
  refine z_l1i (ci := 2) (As := [.int (xs (2 + 4 * j + 1)), .int (xs (2 + 4 * j + 2))]) (rest := [.int r0]) ⟨hx, hb, hml, hown, hts⟩ (mX1_way l (ok1_way hs.2.1 ho hI1.2 (Post := fun r _ => r = aWay lq _ _) rfl)) (cwV 2 hts gL_law_X1_way rfl rfl rfl (by decide +kernel) ⟨Nat.le_of_ble_eq_true rfl, Nat.le_of_ble_eq_true rfl⟩) hK1 hP hD hS hA 0 rfl rfl rfl rfl hl.1 rfl (Nat.le_of_ble_eq_true rfl) dL_law_218 hcs (fun r1 u1 H locs e1 hP hD hS => ?_)
  exact lv_icmp_eq (tgt := 332) hx hb dL_law_221 (by decide) (fun _ => hend _ _ _ _ _ _ (ho) ⟨_, _, _, _, _, _, _, _, _, rfl, hI0⟩ ⟨_, _, _, _, _, _, _, _, _, _, _, _, _, _, _, rfl, hI1⟩ hP hD hS) (fun q => absurd (e0.trans e1.symm) q)
set_option maxHeartbeats 4000000 in
set_option maxRecDepth 100000 in
theorem law_cost {p : Program} {l : Launch} {e : Env} {s : State} {m : MethodId} {below : List Frame} {meth : Method} {c : Code} {b L j : Nat} {xs : Nat → Int32} (hL : L ≤ 2050) (C0 : lw_At p s m meth c b L xs) {dC : Nat → ClassId} {dI : Nat → Nat → Nat} {ad0 ad1 : Nat → Nat} {cA0 cA1 : Nat → ClassId} {nW nH : Nat} (hs : szs nW nH) (hK0 : va_K (dC, dI) vwCl (tX0 cA0) s) (hK1 : va_K (dC, dI) vwCl (tX1 cA1) s) (hj : 2 + 4 * j + 4 ≤ L) {d : Nat → Nat → Bool} {lq : Sh (List Nat)} (ho : okL nW lq) {w0 w1 : va_W} (g0 : G0 ad0 cA0 nW nH d lq w0) (g1 : G1 ad1 cA1 nW nH d lq w1) {A : Nat → Prop} (hA : ∀ q, s.heap.size ≤ q → A q) (hbA : ¬ A b) {H : Heap} {locs : List Loc} {cells slots : Nat} (hcs : cells ≤ 601024 ∧ slots ≤ 7293000) (hP : va_P (dC, dI) vwCl (w0 ++ w1) H) (hD : va_D A (w0 ++ w1)) (hS : va_S A s.heap H locs) {ls : Array Slot} (hl : lv_has ls 5 [(0, .ref b), (1, .ref (ad0 0)), (2, .ref (ad1 0)), (3, .int (nI (2 + 4 * j)))]) {Q : State → Prop}
    (hend : ∀ (d : Nat → Nat → Bool) (lq : Sh (List Nat)) (w0 w1 : va_W) (H : Heap) (locs : List Loc), okL nW lq → G0 ad0 cA0 nW nH d lq w0 → G1 ad1 cA1 nW nH d lq w1 → va_P (dC, dI) vwCl (w0 ++ w1) H → va_D A (w0 ++ w1) → va_S A s.heap H locs → W p l e room_1 s m #[Value.ref b] below meth c H locs cells slots Q (F0 m 332 ls [])) : W p l e room_1 s m #[Value.ref b] below meth c H locs cells slots Q (F0 m 226 ls []) := by
  obtain ⟨hx, hb, hr, hml, hown, htb, hX, hbl, hlocks, -⟩ := C0
  have hts : ∀ w ∈ wsL_law, w.before _ s = true := fun w hw => htb w (wsL_law_in w hw)
  obtain ⟨ff, fd, cols, rows, ends, ecost, ecnt, tails, longer, rfl, hI0⟩ := g0
  obtain ⟨th, fn, wd, dk, mn, cs, nx, gs, pr, ln, wy, ct, bf, sg, my, rfl, hI1⟩ := g1
  refine lv_aload_n hx hb dL_law_226 rfl (lv_at hl 1 rfl) ?_
  refine lv_aload_n hx hb dL_law_227 rfl (lv_at hl 0 rfl) ?_
  refine lv_iload_n hx hb dL_law_228 rfl (lv_at hl 3 rfl) ?_
  refine lv_iconst (v := 1) hx hb dL_law_229 (by decide) ?_
  refine lv_iadd hx hb dL_law_230 ?_
  refine z_sld (k := 2 + 4 * j + 1) hx hb hX hbl hbA hS (nI_add _ 1) (by omega) hL dL_law_231 ?_
  refine z_cVl (ci := 1) (As := [.int (xs (2 + 4 * j + 1))]) (rest := []) ⟨hx, hb, hml, hown, hts⟩ (mX0_cost l (ok0_cost hs.2.1 ho hI0.2 (Post := fun r => r = aCost lq _) rfl)) (cwV 1 hts gL_law_X0_cost rfl rfl rfl (by decide +kernel) ⟨Nat.le_of_ble_eq_true rfl, Nat.le_of_ble_eq_true rfl⟩) hK0 (vaP_l hP) 0 rfl rfl rfl rfl hl.1 rfl (Nat.le_of_ble_eq_true rfl) dL_law_232 hcs (fun r0 e0 => ?_)
  refine lv_aload_n hx hb dL_law_235 rfl (lv_at hl 2 rfl) ?_
  refine lv_aload_n hx hb dL_law_236 rfl (lv_at hl 0 rfl) ?_
  refine lv_iload_n hx hb dL_law_237 rfl (lv_at hl 3 rfl) ?_
  refine lv_iconst (v := 1) hx hb dL_law_238 (by decide) ?_
  refine lv_iadd hx hb dL_law_239 ?_
  refine z_sld (k := 2 + 4 * j + 1) hx hb hX hbl hbA hS (nI_add _ 1) (by omega) hL dL_law_240 ?_
  refine z_l1l (ci := 2) (As := [.int (xs (2 + 4 * j + 1))]) (rest := [.long r0]) ⟨hx, hb, hml, hown, hts⟩ (mX1_cost l (ok1_cost ho hI1.2 (Post := fun r _ => r = aCost lq _) rfl)) (cwV 1 hts gL_law_X1_cost rfl rfl rfl (by decide +kernel) ⟨Nat.le_of_ble_eq_true rfl, Nat.le_of_ble_eq_true rfl⟩) hK1 hP hD hS hA 0 rfl rfl rfl rfl hl.1 rfl (Nat.le_of_ble_eq_true rfl) dL_law_241 hcs (fun r1 u1 H locs e1 hP hD hS => ?_)
  refine W.lcmp hx hb dL_law_244 ?_
  exact lv_if_eq (tgt := 332) hx hb dL_law_245 (by decide) (fun _ => hend _ _ _ _ _ _ (ho) ⟨_, _, _, _, _, _, _, _, _, rfl, hI0⟩ ⟨_, _, _, _, _, _, _, _, _, _, _, _, _, _, _, rfl, hI1⟩ hP hD hS) (fun q => absurd (by rw [lg_cmp_eq]; exact e0.trans e1.symm) q)
set_option maxHeartbeats 4000000 in
set_option maxRecDepth 100000 in
theorem law_signs {p : Program} {l : Launch} {e : Env} {s : State} {m : MethodId} {below : List Frame} {meth : Method} {c : Code} {b L j : Nat} {xs : Nat → Int32} (hL : L ≤ 2050) (C0 : lw_At p s m meth c b L xs) {dC : Nat → ClassId} {dI : Nat → Nat → Nat} {ad0 ad1 : Nat → Nat} {cA0 cA1 : Nat → ClassId} {nW nH : Nat} (hs : szs nW nH) (hK0 : va_K (dC, dI) vwCl (tX0 cA0) s) (hK1 : va_K (dC, dI) vwCl (tX1 cA1) s) (hj : 2 + 4 * j + 4 ≤ L) {d : Nat → Nat → Bool} {lq : Sh (List Nat)} (ho : okL nW lq) {w0 w1 : va_W} (g0 : G0 ad0 cA0 nW nH d lq w0) (g1 : G1 ad1 cA1 nW nH d lq w1) {A : Nat → Prop} (hA : ∀ q, s.heap.size ≤ q → A q) (hbA : ¬ A b) {H : Heap} {locs : List Loc} {cells slots : Nat} (hcs : cells ≤ 601024 ∧ slots ≤ 7293000) (hP : va_P (dC, dI) vwCl (w0 ++ w1) H) (hD : va_D A (w0 ++ w1)) (hS : va_S A s.heap H locs) {ls : Array Slot} (hl : lv_has ls 5 [(0, .ref b), (1, .ref (ad0 0)), (2, .ref (ad1 0)), (3, .int (nI (2 + 4 * j)))]) {Q : State → Prop}
    (hend : ∀ (d : Nat → Nat → Bool) (lq : Sh (List Nat)) (w0 w1 : va_W) (H : Heap) (locs : List Loc), okL nW lq → G0 ad0 cA0 nW nH d lq w0 → G1 ad1 cA1 nW nH d lq w1 → va_P (dC, dI) vwCl (w0 ++ w1) H → va_D A (w0 ++ w1) → va_S A s.heap H locs → W p l e room_1 s m #[Value.ref b] below meth c H locs cells slots Q (F0 m 332 ls [])) : W p l e room_1 s m #[Value.ref b] below meth c H locs cells slots Q (F0 m 250 ls []) := by
  obtain ⟨hx, hb, hr, hml, hown, htb, hX, hbl, hlocks, -⟩ := C0
  have hts : ∀ w ∈ wsL_law, w.before _ s = true := fun w hw => htb w (wsL_law_in w hw)
  obtain ⟨ff, fd, cols, rows, ends, ecost, ecnt, tails, longer, rfl, hI0⟩ := g0
  obtain ⟨th, fn, wd, dk, mn, cs, nx, gs, pr, ln, wy, ct, bf, sg, my, rfl, hI1⟩ := g1
  refine lv_aload_n hx hb dL_law_250 rfl (lv_at hl 1 rfl) ?_
  refine lv_aload_n hx hb dL_law_251 rfl (lv_at hl 0 rfl) ?_
  refine lv_iload_n hx hb dL_law_252 rfl (lv_at hl 3 rfl) ?_
  refine lv_iconst (v := 1) hx hb dL_law_253 (by decide) ?_
  refine lv_iadd hx hb dL_law_254 ?_
  refine z_sld (k := 2 + 4 * j + 1) hx hb hX hbl hbA hS (nI_add _ 1) (by omega) hL dL_law_255 ?_
  refine z_cVi (ci := 1) (As := [.int (xs (2 + 4 * j + 1))]) (rest := []) ⟨hx, hb, hml, hown, hts⟩ (mX0_signs l (ok0_signs hs.2.1 ho hI0.2 (Post := fun r => r = aSigns lq _) rfl)) (cwV 1 hts gL_law_X0_signs rfl rfl rfl (by decide +kernel) ⟨Nat.le_of_ble_eq_true rfl, Nat.le_of_ble_eq_true rfl⟩) hK0 (vaP_l hP) 0 rfl rfl rfl rfl hl.1 rfl (Nat.le_of_ble_eq_true rfl) dL_law_256 hcs (fun r0 e0 => ?_)
  refine lv_aload_n hx hb dL_law_259 rfl (lv_at hl 2 rfl) ?_
  refine lv_aload_n hx hb dL_law_260 rfl (lv_at hl 0 rfl) ?_
  refine lv_iload_n hx hb dL_law_261 rfl (lv_at hl 3 rfl) ?_
  refine lv_iconst (v := 1) hx hb dL_law_262 (by decide) ?_
  refine lv_iadd hx hb dL_law_263 ?_
  refine z_sld (k := 2 + 4 * j + 1) hx hb hX hbl hbA hS (nI_add _ 1) (by omega) hL dL_law_264 ?_
  refine z_l1i (ci := 2) (As := [.int (xs (2 + 4 * j + 1))]) (rest := [.int r0]) ⟨hx, hb, hml, hown, hts⟩ (mX1_signs l (ok1_signs hs.2.1 ho hI1.2 (Post := fun r _ => r = aSigns lq _) rfl)) (cwV 1 hts gL_law_X1_signs rfl rfl rfl (by decide +kernel) ⟨Nat.le_of_ble_eq_true rfl, Nat.le_of_ble_eq_true rfl⟩) hK1 hP hD hS hA 0 rfl rfl rfl rfl hl.1 rfl (Nat.le_of_ble_eq_true rfl) dL_law_265 hcs (fun r1 u1 H locs e1 hP hD hS => ?_)
  exact lv_icmp_eq (tgt := 332) hx hb dL_law_268 (by decide) (fun _ => hend _ _ _ _ _ _ (ho) ⟨_, _, _, _, _, _, _, _, _, rfl, hI0⟩ ⟨_, _, _, _, _, _, _, _, _, _, _, _, _, _, _, rfl, hI1⟩ hP hD hS) (fun q => absurd (e0.trans e1.symm) q)
set_option maxHeartbeats 4000000 in
set_option maxRecDepth 100000 in
theorem law_base {p : Program} {l : Launch} {e : Env} {s : State} {m : MethodId} {below : List Frame} {meth : Method} {c : Code} {b L j : Nat} {xs : Nat → Int32} (hL : L ≤ 2050) (C0 : lw_At p s m meth c b L xs) {dC : Nat → ClassId} {dI : Nat → Nat → Nat} {ad0 ad1 : Nat → Nat} {cA0 cA1 : Nat → ClassId} {nW nH : Nat} (hs : szs nW nH) (hK0 : va_K (dC, dI) vwCl (tX0 cA0) s) (hK1 : va_K (dC, dI) vwCl (tX1 cA1) s) (hj : 2 + 4 * j + 4 ≤ L) {d : Nat → Nat → Bool} {lq : Sh (List Nat)} (ho : okL nW lq) {w0 w1 : va_W} (g0 : G0 ad0 cA0 nW nH d lq w0) (g1 : G1 ad1 cA1 nW nH d lq w1) {A : Nat → Prop} (hA : ∀ q, s.heap.size ≤ q → A q) (hbA : ¬ A b) {H : Heap} {locs : List Loc} {cells slots : Nat} (hcs : cells ≤ 601024 ∧ slots ≤ 7293000) (hP : va_P (dC, dI) vwCl (w0 ++ w1) H) (hD : va_D A (w0 ++ w1)) (hS : va_S A s.heap H locs) {ls : Array Slot} (hl : lv_has ls 5 [(0, .ref b), (1, .ref (ad0 0)), (2, .ref (ad1 0)), (3, .int (nI (2 + 4 * j)))]) {Q : State → Prop}
    (hend : ∀ (d : Nat → Nat → Bool) (lq : Sh (List Nat)) (w0 w1 : va_W) (H : Heap) (locs : List Loc), okL nW lq → G0 ad0 cA0 nW nH d lq w0 → G1 ad1 cA1 nW nH d lq w1 → va_P (dC, dI) vwCl (w0 ++ w1) H → va_D A (w0 ++ w1) → va_S A s.heap H locs → W p l e room_1 s m #[Value.ref b] below meth c H locs cells slots Q (F0 m 332 ls [])) : W p l e room_1 s m #[Value.ref b] below meth c H locs cells slots Q (F0 m 273 ls []) := by
  obtain ⟨hx, hb, hr, hml, hown, htb, hX, hbl, hlocks, -⟩ := C0
  have hts : ∀ w ∈ wsL_law, w.before _ s = true := fun w hw => htb w (wsL_law_in w hw)
  obtain ⟨ff, fd, cols, rows, ends, ecost, ecnt, tails, longer, rfl, hI0⟩ := g0
  obtain ⟨th, fn, wd, dk, mn, cs, nx, gs, pr, ln, wy, ct, bf, sg, my, rfl, hI1⟩ := g1
  refine lv_aload_n hx hb dL_law_273 rfl (lv_at hl 1 rfl) ?_
  refine lv_aload_n hx hb dL_law_274 rfl (lv_at hl 0 rfl) ?_
  refine lv_iload_n hx hb dL_law_275 rfl (lv_at hl 3 rfl) ?_
  refine lv_iconst (v := 1) hx hb dL_law_276 (by decide) ?_
  refine lv_iadd hx hb dL_law_277 ?_
  refine z_sld (k := 2 + 4 * j + 1) hx hb hX hbl hbA hS (nI_add _ 1) (by omega) hL dL_law_278 ?_
  refine z_cVi (ci := 1) (As := [.int (xs (2 + 4 * j + 1))]) (rest := []) ⟨hx, hb, hml, hown, hts⟩ (mX0_base l (ok0_base hs hI0.1 (Post := fun r => r = aBase nW nH d _) rfl)) (cwV 1 hts gL_law_X0_base rfl rfl rfl (by decide +kernel) ⟨Nat.le_of_ble_eq_true rfl, Nat.le_of_ble_eq_true rfl⟩) hK0 (vaP_l hP) 0 rfl rfl rfl rfl hl.1 rfl (Nat.le_of_ble_eq_true rfl) dL_law_279 hcs (fun r0 e0 => ?_)
  refine lv_aload_n hx hb dL_law_282 rfl (lv_at hl 2 rfl) ?_
  refine lv_aload_n hx hb dL_law_283 rfl (lv_at hl 0 rfl) ?_
  refine lv_iload_n hx hb dL_law_284 rfl (lv_at hl 3 rfl) ?_
  refine lv_iconst (v := 1) hx hb dL_law_285 (by decide) ?_
  refine lv_iadd hx hb dL_law_286 ?_
  refine z_sld (k := 2 + 4 * j + 1) hx hb hX hbl hbA hS (nI_add _ 1) (by omega) hL dL_law_287 ?_
  refine z_l1i (ci := 2) (As := [.int (xs (2 + 4 * j + 1))]) (rest := [.int r0]) ⟨hx, hb, hml, hown, hts⟩ (mX1_base l (ok1_base hs hI1.1 (Post := fun r _ => r = aBase nW nH d _) rfl)) (cwV 1 hts gL_law_X1_base rfl rfl rfl (by decide +kernel) ⟨Nat.le_of_ble_eq_true rfl, Nat.le_of_ble_eq_true rfl⟩) hK1 hP hD hS hA 0 rfl rfl rfl rfl hl.1 rfl (Nat.le_of_ble_eq_true rfl) dL_law_288 hcs (fun r1 u1 H locs e1 hP hD hS => ?_)
  exact lv_icmp_eq (tgt := 332) hx hb dL_law_291 (by decide) (fun _ => hend _ _ _ _ _ _ (ho) ⟨_, _, _, _, _, _, _, _, _, rfl, hI0⟩ ⟨_, _, _, _, _, _, _, _, _, _, _, _, _, _, _, rfl, hI1⟩ hP hD hS) (fun q => absurd (e0.trans e1.symm) q)
set_option maxHeartbeats 4000000 in
set_option maxRecDepth 100000 in
theorem law_slant {p : Program} {l : Launch} {e : Env} {s : State} {m : MethodId} {below : List Frame} {meth : Method} {c : Code} {b L j : Nat} {xs : Nat → Int32} (hL : L ≤ 2050) (C0 : lw_At p s m meth c b L xs) {dC : Nat → ClassId} {dI : Nat → Nat → Nat} {ad0 ad1 : Nat → Nat} {cA0 cA1 : Nat → ClassId} {nW nH : Nat} (hs : szs nW nH) (hK0 : va_K (dC, dI) vwCl (tX0 cA0) s) (hK1 : va_K (dC, dI) vwCl (tX1 cA1) s) (hj : 2 + 4 * j + 4 ≤ L) {d : Nat → Nat → Bool} {lq : Sh (List Nat)} (ho : okL nW lq) {w0 w1 : va_W} (g0 : G0 ad0 cA0 nW nH d lq w0) (g1 : G1 ad1 cA1 nW nH d lq w1) {A : Nat → Prop} (hA : ∀ q, s.heap.size ≤ q → A q) (hbA : ¬ A b) {H : Heap} {locs : List Loc} {cells slots : Nat} (hcs : cells ≤ 601024 ∧ slots ≤ 7293000) (hP : va_P (dC, dI) vwCl (w0 ++ w1) H) (hD : va_D A (w0 ++ w1)) (hS : va_S A s.heap H locs) {ls : Array Slot} (hl : lv_has ls 5 [(0, .ref b), (1, .ref (ad0 0)), (2, .ref (ad1 0)), (3, .int (nI (2 + 4 * j)))]) {Q : State → Prop}
    (hend : ∀ (d : Nat → Nat → Bool) (lq : Sh (List Nat)) (w0 w1 : va_W) (H : Heap) (locs : List Loc), okL nW lq → G0 ad0 cA0 nW nH d lq w0 → G1 ad1 cA1 nW nH d lq w1 → va_P (dC, dI) vwCl (w0 ++ w1) H → va_D A (w0 ++ w1) → va_S A s.heap H locs → W p l e room_1 s m #[Value.ref b] below meth c H locs cells slots Q (F0 m 332 ls [])) : W p l e room_1 s m #[Value.ref b] below meth c H locs cells slots Q (F0 m 296 ls []) := by
  obtain ⟨hx, hb, hr, hml, hown, htb, hX, hbl, hlocks, -⟩ := C0
  have hts : ∀ w ∈ wsL_law, w.before _ s = true := fun w hw => htb w (wsL_law_in w hw)
  obtain ⟨ff, fd, cols, rows, ends, ecost, ecnt, tails, longer, rfl, hI0⟩ := g0
  obtain ⟨th, fn, wd, dk, mn, cs, nx, gs, pr, ln, wy, ct, bf, sg, my, rfl, hI1⟩ := g1
  refine lv_aload_n hx hb dL_law_296 rfl (lv_at hl 1 rfl) ?_
  refine z_cVi (ci := 1) (As := []) (rest := []) ⟨hx, hb, hml, hown, hts⟩ (mX0_slant l (ok0_slant hs hI0.1 (Post := fun r => r = aSlant nW nH d) rfl)) (cwV 0 hts gL_law_X0_slant rfl rfl rfl (by decide +kernel) ⟨Nat.le_of_ble_eq_true rfl, Nat.le_of_ble_eq_true rfl⟩) hK0 (vaP_l hP) 0 rfl rfl rfl rfl hl.1 rfl (Nat.le_of_ble_eq_true rfl) dL_law_297 hcs (fun r0 e0 => ?_)
  refine lv_aload_n hx hb dL_law_300 rfl (lv_at hl 2 rfl) ?_
  refine z_l1i (ci := 2) (As := []) (rest := [.int r0]) ⟨hx, hb, hml, hown, hts⟩ (mX1_slant l (ok1_slant hs hI1.1 (Post := fun r _ => r = aSlant nW nH d) rfl)) (cwV 0 hts gL_law_X1_slant rfl rfl rfl (by decide +kernel) ⟨Nat.le_of_ble_eq_true rfl, Nat.le_of_ble_eq_true rfl⟩) hK1 hP hD hS hA 0 rfl rfl rfl rfl hl.1 rfl (Nat.le_of_ble_eq_true rfl) dL_law_301 hcs (fun r1 u1 H locs e1 hP hD hS => ?_)
  exact lv_icmp_eq (tgt := 332) hx hb dL_law_304 (by decide) (fun _ => hend _ _ _ _ _ _ (ho) ⟨_, _, _, _, _, _, _, _, _, rfl, hI0⟩ ⟨_, _, _, _, _, _, _, _, _, _, _, _, _, _, _, rfl, hI1⟩ hP hD hS) (fun q => absurd (e0.trans e1.symm) q)
set_option maxHeartbeats 4000000 in
set_option maxRecDepth 100000 in
theorem law_plain {p : Program} {l : Launch} {e : Env} {s : State} {m : MethodId} {below : List Frame} {meth : Method} {c : Code} {b L j : Nat} {xs : Nat → Int32} (hL : L ≤ 2050) (C0 : lw_At p s m meth c b L xs) {dC : Nat → ClassId} {dI : Nat → Nat → Nat} {ad0 ad1 : Nat → Nat} {cA0 cA1 : Nat → ClassId} {nW nH : Nat} (hs : szs nW nH) (hK0 : va_K (dC, dI) vwCl (tX0 cA0) s) (hK1 : va_K (dC, dI) vwCl (tX1 cA1) s) (hj : 2 + 4 * j + 4 ≤ L) {d : Nat → Nat → Bool} {lq : Sh (List Nat)} (ho : okL nW lq) {w0 w1 : va_W} (g0 : G0 ad0 cA0 nW nH d lq w0) (g1 : G1 ad1 cA1 nW nH d lq w1) {A : Nat → Prop} (hA : ∀ q, s.heap.size ≤ q → A q) (hbA : ¬ A b) {H : Heap} {locs : List Loc} {cells slots : Nat} (hcs : cells ≤ 601024 ∧ slots ≤ 7293000) (hP : va_P (dC, dI) vwCl (w0 ++ w1) H) (hD : va_D A (w0 ++ w1)) (hS : va_S A s.heap H locs) {ls : Array Slot} (hl : lv_has ls 5 [(0, .ref b), (1, .ref (ad0 0)), (2, .ref (ad1 0)), (3, .int (nI (2 + 4 * j)))]) {Q : State → Prop}
    (hend : ∀ (d : Nat → Nat → Bool) (lq : Sh (List Nat)) (w0 w1 : va_W) (H : Heap) (locs : List Loc), okL nW lq → G0 ad0 cA0 nW nH d lq w0 → G1 ad1 cA1 nW nH d lq w1 → va_P (dC, dI) vwCl (w0 ++ w1) H → va_D A (w0 ++ w1) → va_S A s.heap H locs → W p l e room_1 s m #[Value.ref b] below meth c H locs cells slots Q (F0 m 332 ls [])) : W p l e room_1 s m #[Value.ref b] below meth c H locs cells slots Q (F0 m 309 ls []) := by
  obtain ⟨hx, hb, hr, hml, hown, htb, hX, hbl, hlocks, -⟩ := C0
  have hts : ∀ w ∈ wsL_law, w.before _ s = true := fun w hw => htb w (wsL_law_in w hw)
  obtain ⟨ff, fd, cols, rows, ends, ecost, ecnt, tails, longer, rfl, hI0⟩ := g0
  obtain ⟨th, fn, wd, dk, mn, cs, nx, gs, pr, ln, wy, ct, bf, sg, my, rfl, hI1⟩ := g1
  refine lv_aload_n hx hb dL_law_309 rfl (lv_at hl 1 rfl) ?_
  refine lv_aload_n hx hb dL_law_310 rfl (lv_at hl 0 rfl) ?_
  refine lv_iload_n hx hb dL_law_311 rfl (lv_at hl 3 rfl) ?_
  refine lv_iconst (v := 1) hx hb dL_law_312 (by decide) ?_
  refine lv_iadd hx hb dL_law_313 ?_
  refine z_sld (k := 2 + 4 * j + 1) hx hb hX hbl hbA hS (nI_add _ 1) (by omega) hL dL_law_314 ?_
  refine z_l0i (ci := 1) (As := [.int (xs (2 + 4 * j + 1))]) (rest := []) ⟨hx, hb, hml, hown, hts⟩ (mX0_plain l (ok0_plain hs hI0.1 (Post := fun r _ _ => r = aPlain nW nH d _) (fun _ _ => rfl))) (cwV 1 hts gL_law_X0_plain rfl rfl rfl (by decide +kernel) ⟨Nat.le_of_ble_eq_true rfl, Nat.le_of_ble_eq_true rfl⟩) hK0 hP hD hS hA 0 rfl rfl rfl rfl hl.1 rfl (Nat.le_of_ble_eq_true rfl) dL_law_315 hcs (fun r0 u0 H locs e0 hP hD hS => ?_)
  refine lv_aload_n hx hb dL_law_318 rfl (lv_at hl 2 rfl) ?_
  refine lv_aload_n hx hb dL_law_319 rfl (lv_at hl 0 rfl) ?_
  refine lv_iload_n hx hb dL_law_320 rfl (lv_at hl 3 rfl) ?_
  refine lv_iconst (v := 1) hx hb dL_law_321 (by decide) ?_
  refine lv_iadd hx hb dL_law_322 ?_
  refine z_sld (k := 2 + 4 * j + 1) hx hb hX hbl hbA hS (nI_add _ 1) (by omega) hL dL_law_323 ?_
  refine z_l1i (ci := 2) (As := [.int (xs (2 + 4 * j + 1))]) (rest := [.int r0]) ⟨hx, hb, hml, hown, hts⟩ (mX1_plain l (ok1_plain hs hI1.1 (Post := fun r _ _ _ _ _ _ => r = aPlain nW nH d _) (fun _ _ _ _ _ => rfl))) (cwV 1 hts gL_law_X1_plain rfl rfl rfl (by decide +kernel) ⟨Nat.le_of_ble_eq_true rfl, Nat.le_of_ble_eq_true rfl⟩) hK1 hP hD hS hA 0 rfl rfl rfl rfl hl.1 rfl (Nat.le_of_ble_eq_true rfl) dL_law_324 hcs (fun r1 u1 H locs e1 hP hD hS => ?_)
  exact lv_icmp_eq (tgt := 332) hx hb dL_law_327 (by decide) (fun _ => hend _ _ _ _ _ _ (ho) ⟨_, _, _, _, _, _, _, _, _, rfl, hI0⟩ ⟨_, _, _, _, _, _, _, _, _, _, _, _, _, _, _, rfl, hI1⟩ hP hD hS) (fun q => absurd (e0.trans e1.symm) q)
