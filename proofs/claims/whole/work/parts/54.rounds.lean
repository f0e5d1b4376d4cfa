/-! ===== the law's rounds ===== -/
theorem z_sw8 (v : Int32) : v &&& 7 = 0 ∨ v &&& 7 = 1 ∨ v &&& 7 = 2 ∨ v &&& 7 = 3 ∨ v &&& 7 = 4 ∨ v &&& 7 = 5 ∨ v &&& 7 = 6 ∨ v &&& 7 = 7 := by
  have h : (v &&& 7).toBitVec.toNat ≤ 7 := by
    rw [Int32.toBitVec_and, BitVec.toNat_and]
    exact Nat.and_le_right
  have k : ∀ n : Int32, (v &&& 7).toBitVec.toNat = n.toBitVec.toNat → v &&& 7 = n := fun n e => Int32.toBitVec_inj.mp (BitVec.eq_of_toNat_eq e)
  generalize v &&& 7 = x at h k ⊢
  have h0 : (0 : Int32).toBitVec.toNat = 0 := rfl
  have h1 : (1 : Int32).toBitVec.toNat = 1 := rfl
  have h2 : (2 : Int32).toBitVec.toNat = 2 := rfl
  have h3 : (3 : Int32).toBitVec.toNat = 3 := rfl
  have h4 : (4 : Int32).toBitVec.toNat = 4 := rfl
  have h5 : (5 : Int32).toBitVec.toNat = 5 := rfl
  have h6 : (6 : Int32).toBitVec.toNat = 6 := rfl
  have h7 : (7 : Int32).toBitVec.toNat = 7 := rfl
  rcases (show x.toBitVec.toNat = 0 ∨ x.toBitVec.toNat = 1 ∨ x.toBitVec.toNat = 2 ∨ x.toBitVec.toNat = 3 ∨ x.toBitVec.toNat = 4 ∨ x.toBitVec.toNat = 5 ∨ x.toBitVec.toNat = 6 ∨ x.toBitVec.toNat = 7 by omega) with q | q | q | q | q | q | q | q
  · exact Or.inl (k 0 (q.trans h0.symm))
  · exact Or.inr (Or.inl (k 1 (q.trans h1.symm)))
  · exact Or.inr (Or.inr (Or.inl (k 2 (q.trans h2.symm))))
  · exact Or.inr (Or.inr (Or.inr (Or.inl (k 3 (q.trans h3.symm)))))
  · exact Or.inr (Or.inr (Or.inr (Or.inr (Or.inl (k 4 (q.trans h4.symm))))))
  · exact Or.inr (Or.inr (Or.inr (Or.inr (Or.inr (Or.inl (k 5 (q.trans h5.symm)))))))
  · exact Or.inr (Or.inr (Or.inr (Or.inr (Or.inr (Or.inr (Or.inl (k 6 (q.trans h6.symm))))))))
  · exact Or.inr (Or.inr (Or.inr (Or.inr (Or.inr (Or.inr (Or.inr (k 7 (q.trans h7.symm))))))))
theorem law_lt {L i : Nat} (hL : L ≤ 2050) (hi : i ≤ 3000) : nI L - 4 < nI i ↔ L < i + 4 := by
  have e : (nI L - 4).toInt = (L : Int) - 4 := by
    rw [Int32.toInt_sub, nI_toInt (by omega), show (4 : Int32).toInt = 4 from rfl, Int.bmod_def]
    omega
  rw [Int32.lt_iff_toInt_lt, e, nI_toInt (by omega)]
  omega
set_option maxHeartbeats 4000000 in
set_option maxRecDepth 100000 in
theorem law_loop {p : Program} {l : Launch} (hfl : l.flags = pinnedFlags ++ [noTraceFlag]) {e : Env} {s : State} {m : MethodId} {below : List Frame} {meth : Method} {c : Code} {b L : Nat} {xs : Nat → Int32} (hL : L ≤ 2050) (C0 : lw_At p s m meth c b L xs) {dC : Nat → ClassId} {dI : Nat → Nat → Nat} {ad0 ad1 : Nat → Nat} {cA0 cA1 : Nat → ClassId} {nW nH : Nat} (hs : szs nW nH) (hK0 : va_K (dC, dI) vwCl (tX0 cA0) s) (hK1 : va_K (dC, dI) vwCl (tX1 cA1) s) {A : Nat → Prop} (hA : ∀ q, s.heap.size ≤ q → A q) (hA2 : ∀ q, A q → s.heap.size ≤ q) (hbA : ¬ A b) {tq : Nat} (hZ : zX tq A s s.heap) :
    ∀ (t j : Nat), L ≤ 2 + 4 * j + 4 * t → (j = 0 ∨ 2 + 4 * j ≤ L) → ∀ (d : Nat → Nat → Bool) (lq : Sh (List Nat)) (w0 w1 : va_W) (H : Heap) (locs : List Loc) (ls : Array Slot), okL nW lq → G0 ad0 cA0 nW nH d lq w0 → G1 ad1 cA1 nW nH d lq w1 → va_P (dC, dI) vwCl (w0 ++ w1) H → va_D A (w0 ++ w1) → va_S A s.heap H locs → lv_has ls 5 [(0, .ref b), (1, .ref (ad0 0)), (2, .ref (ad1 0)), (3, .int (nI (2 + 4 * j)))] → W p l e room_1 s m #[Value.ref b] below meth c H locs (21 + j) (21436 + 6 * j) (lw_Z below #[Value.ref b] s) (F0 m 38 ls []) := by
  have C1 := C0
  obtain ⟨hx, hb, hr, hml, hown, htb, hX, hbl, hlocks, -⟩ := C0
  intro t
  induction t with
  | zero =>
    intro j h1 h2 d lq w0 w1 H locs ls ho g0 g1 hP hD hS hl
    have hj : j ≤ 512 := by omega
    refine lv_iload_n hx hb dL_law_38 rfl (lv_at hl 3 rfl) ?_
    refine lv_aload_n hx hb dL_law_39 rfl (lv_at hl 0 rfl) ?_
    refine va_slen hx hb hX hbl hbA hS dL_law_40 ?_
    refine lv_iconst (v := 4) hx hb dL_law_41 (by decide) ?_
    refine lv_isub hx hb dL_law_42 ?_
    refine lv_icmp_gt (tgt := 338) hx hb dL_law_43 (by decide) (fun q => ?_) (fun q => absurd ((law_lt (i := 2 + 4 * j) hL (by omega)).mpr (by omega)) q)
    refine lv_iconst (v := 1) hx hb dL_law_338 (by decide) ?_
    refine va_forget (fun q hq => hA2 _ (hS.2.2 q hq)) ?_
    exact W.widen (by omega) (by omega) (lw_ret hx hb hr hlocks dL_law_339)
  | succ t ih =>
    intro j h1 h2 d lq w0 w1 H locs ls ho g0 g1 hP hD hS hl
    have hj : j ≤ 512 := by omega
    refine lv_iload_n hx hb dL_law_38 rfl (lv_at hl 3 rfl) ?_
    refine lv_aload_n hx hb dL_law_39 rfl (lv_at hl 0 rfl) ?_
    refine va_slen hx hb hX hbl hbA hS dL_law_40 ?_
    refine lv_iconst (v := 4) hx hb dL_law_41 (by decide) ?_
    refine lv_isub hx hb dL_law_42 ?_
    refine lv_icmp_gt (tgt := 338) hx hb dL_law_43 (by decide) (fun q => ?_) (fun q => ?_)
    · refine lv_iconst (v := 1) hx hb dL_law_338 (by decide) ?_
      refine va_forget (fun q hq => hA2 _ (hS.2.2 q hq)) ?_
      exact W.widen (by omega) (by omega) (lw_ret hx hb hr hlocks dL_law_339)
    · have hlt : 2 + 4 * j + 4 ≤ L := Nat.not_lt.mp (fun z => q ((law_lt (i := 2 + 4 * j) hL (by omega)).mpr z))
      have hnext : ∀ (d : Nat → Nat → Bool) (lq : Sh (List Nat)) (w0 w1 : va_W) (H : Heap) (locs : List Loc) (ls : Array Slot) (cells slots : Nat), cells ≤ 21 + (j + 1) → slots ≤ 21436 + 6 * (j + 1) → okL nW lq → G0 ad0 cA0 nW nH d lq w0 → G1 ad1 cA1 nW nH d lq w1 → va_P (dC, dI) vwCl (w0 ++ w1) H → va_D A (w0 ++ w1) → va_S A s.heap H locs → lv_has ls 5 [(0, .ref b), (1, .ref (ad0 0)), (2, .ref (ad1 0)), (3, .int (nI (2 + 4 * j)))] → W p l e room_1 s m #[Value.ref b] below meth c H locs cells slots (lw_Z below #[Value.ref b] s) (F0 m 332 ls []) := by
        intro d lq w0 w1 H locs ls cells slots hc1 hc2 ho g0 g1 hP hD hS hl
        refine lv_iinc (v := nI (2 + 4 * (j + 1))) (lv' := [(3, .int (nI (2 + 4 * (j + 1)))), (0, .ref b), (1, .ref (ad0 0)), (2, .ref (ad1 0))]) hx hb dL_law_332 hl (k := 3) rfl (nI_add (2 + 4 * j) 4) (by decide) rfl (fun ls hl => ?_)
        refine lv_goto (tgt := 38) hx hb dL_law_335 (by decide) ?_
        exact W.widen hc1 hc2 (ih (j + 1) (by omega) (Or.inr (by omega)) d lq w0 w1 H locs ls ho g0 g1 hP hD hS (lv_sub hl [1, 2, 3, 0] rfl))
      have hcs : 21 + j ≤ 601024 ∧ 21436 + 6 * j ≤ 7293000 := ⟨by omega, by omega⟩
      have hgo := fun (d : Nat → Nat → Bool) (lq : Sh (List Nat)) (w0 w1 : va_W) (H : Heap) (locs : List Loc) ho g0 g1 hP hD hS => hnext d lq w0 w1 H locs ls (21 + j) (21436 + 6 * j) (by omega) (by omega) ho g0 g1 hP hD hS hl
      refine lv_aload_n hx hb dL_law_46 rfl (lv_at hl 0 rfl) ?_
      refine lv_iload_n hx hb dL_law_47 rfl (lv_at hl 3 rfl) ?_
      refine z_sld (k := 2 + 4 * j) hx hb hX hbl hbA hS rfl (by omega) hL dL_law_48 ?_
      refine lv_bipush (v := 7) hx hb dL_law_49 (by decide) ?_
      refine lv_iand hx hb dL_law_51 ?_
      rcases z_sw8 (xs (2 + 4 * j)) with z | z | z | z | z | z | z | z
      · refine lv_tableIn (off := 48) (tgt := 100) hx hb dL_law_52 (by rw [z]; decide) (by rw [z]; decide) (by rw [z]; rfl) (by decide) ?_
        exact law_col hfl hL C1 hs hK0 hK1 hlt ho g0 g1 hA hbA hZ ⟨by omega, by omega⟩ hP hD hS hl (fun d lq w0 w1 H locs ls ho g0 g1 hP hD hS hl => hnext d lq w0 w1 H locs ls _ _ (by omega) (by omega) ho g0 g1 hP hD hS hl)
      · refine lv_tableIn (off := 118) (tgt := 170) hx hb dL_law_52 (by rw [z]; decide) (by rw [z]; decide) (by rw [z]; rfl) (by decide) ?_
        exact law_cut hL C1 hs hK0 hK1 hlt ho g0 g1 hA hbA hcs hP hD hS hl hgo
      · refine lv_tableIn (off := 141) (tgt := 193) hx hb dL_law_52 (by rw [z]; decide) (by rw [z]; decide) (by rw [z]; rfl) (by decide) ?_
        exact law_way hL C1 hs hK0 hK1 hlt ho g0 g1 hA hbA hcs hP hD hS hl hgo
      · refine lv_tableIn (off := 174) (tgt := 226) hx hb dL_law_52 (by rw [z]; decide) (by rw [z]; decide) (by rw [z]; rfl) (by decide) ?_
        exact law_cost hL C1 hs hK0 hK1 hlt ho g0 g1 hA hbA hcs hP hD hS hl hgo
      · refine lv_tableIn (off := 198) (tgt := 250) hx hb dL_law_52 (by rw [z]; decide) (by rw [z]; decide) (by rw [z]; rfl) (by decide) ?_
        exact law_signs hL C1 hs hK0 hK1 hlt ho g0 g1 hA hbA hcs hP hD hS hl hgo
      · refine lv_tableIn (off := 221) (tgt := 273) hx hb dL_law_52 (by rw [z]; decide) (by rw [z]; decide) (by rw [z]; rfl) (by decide) ?_
        exact law_base hL C1 hs hK0 hK1 hlt ho g0 g1 hA hbA hcs hP hD hS hl hgo
      · refine lv_tableIn (off := 244) (tgt := 296) hx hb dL_law_52 (by rw [z]; decide) (by rw [z]; decide) (by rw [z]; rfl) (by decide) ?_
        exact law_slant hL C1 hs hK0 hK1 hlt ho g0 g1 hA hbA hcs hP hD hS hl hgo
      · refine lv_tableIn (off := 257) (tgt := 309) hx hb dL_law_52 (by rw [z]; decide) (by rw [z]; decide) (by rw [z]; rfl) (by decide) ?_
        exact law_plain hL C1 hs hK0 hK1 hlt ho g0 g1 hA hbA hcs hP hD hS hl hgo
