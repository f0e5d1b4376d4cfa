/-! ===== PRINTED BY wip/gen/gen.py: the machine does what the predicates say ===== -/
theorem in_X1_keep : ∀ w ∈ wsX10, w ∈ wsX1_keep := by decide +kernel
set_option maxHeartbeats 4000000 in
set_option maxRecDepth 100000 in
theorem tX1_keep_86 {p : Program} {l : Launch} {e : Env} {s : State} {m : MethodId} {args : Array Value} {below : List Frame} {meth : Method} {c : Code} {dC : Nat → ClassId} {dI : Nat → Nat → Nat} {ad : Nat → Nat} {cA : Nat → ClassId} {nW : Nat} {nH : Nat} {th : Int32} {fn : Int32} {wd : Int32} {dk : Nat → Int32} {pr : Nat → Int64} {ln : Nat → Int32} {wy : Nat → Int32} {ct : Nat → Int64} {bf : Nat → Int64} {sg : Nat → Int64} {my : Nat → Int32} {a1 : Int32} {a2 : Int64} {a4 : Int32} {a5 : Int32} {Post : (Nat → Int32) → (Nat → Int64) → (Nat → Int32) → (Nat → Int32) → Prop} (hC : zC p s m args meth c cX1_keep wsX1_keep none 8 RX1) (hK : va_K (dC, dI) vwCl (tX1 cA) s) {A : Nat → Prop} (hA : ∀ q, s.heap.size ≤ q → A q) {Qc : Array Value → State → Outcome → State → Prop} (hQ : ∀ (mn : Nat → Int32) (cs : Nat → Int64) (nx : Nat → Int32) (gs : Nat → Int32) (H : Heap) (locs : List Loc), va_P (dC, dI) vwCl (wX1 ad cA nW nH th fn wd dk mn cs nx gs pr ln wy ct bf sg my) H → va_D A (wX1 ad cA nW nH th fn wd dk mn cs nx gs pr ln wy ct bf sg my) → va_S A s.heap H locs → Post mn cs nx gs → ∀ t : State, t.heap = H → s.WarmedH t.vm → Qc args s (.returned none) t) : ∀ (n : Nat), ∀ (x6 : Int32) (x7 : Int32) (mn : Nat → Int32) (cs : Nat → Int64) (nx : Nat → Int32) (gs : Nat → Int32) (H : Heap) (locs : List Loc), va_P (dC, dI) vwCl (wX1 ad cA nW nH th fn wd dk mn cs nx gs pr ln wy ct bf sg my) H → va_D A (wX1 ad cA nW nH th fn wd dk mn cs nx gs pr ln wy ct bf sg my) → va_S A s.heap H locs → ∀ (ls : Array Slot), lv_has ls 8 [(0, .ref (ad 0)), (1, .int a1), (2, .long a2), (4, .int a4), (5, .int a5), (6, .int x6), (7, .int x7)] → lX1_keep_86 a1 a2 a4 a5 Post n x6 x7 mn cs nx gs → W p l e ({ frames := 0, cells := 0, slots := 0, locals := 0 } : Room) s m args below meth c H locs 0 0 (MQ below Qc args s 0 0 A) (F0 m 86 ls []) := by
  have hC0 := hC
  obtain ⟨hx, hb, hr, hml, hown, hts, hlocks⟩ := hC
  intro n
  induction n with
  | zero =>
    intro x6 x7 mn cs nx gs H locs hP hD hS ls hl h
    exact h.elim
  | succ n hr86 =>
    intro x6 x7 mn cs nx gs H locs hP hD hS ls hl h
    have h : bX1_keep_86 a1 a2 a4 a5 Post (lX1_keep_86 a1 a2 a4 a5 Post n) x6 x7 mn cs nx gs := h
    unfold bX1_keep_86 at h
    refine lv_iload hx hb dX1_keep_86 (lv_at hl 6 rfl) ?_
    refine lv_iload hx hb dX1_keep_88 (lv_at hl 5 rfl) ?_
    refine lv_icmp_le (tgt := 177) hx hb dX1_keep_90 (by decide) (fun c => ?_) (fun c => ?_)
    · have h := h.1 c
      refine lv_aload_n hx hb dX1_keep_177 rfl (lv_at hl 0 rfl) ?_
      refine va_get (D := (dC, dI)) (ci := 2) (v := .ref (ad 3)) (C := RX1) (T := TX1) (N := 17) hx hb hts in_X1_keep hown hK hP 0 rfl rfl 5 (by decide) (hts (.fieldLink RX1 17 "SignCutterModel" "costs" "[J") (by decide +kernel)) (fun _ h9 => h9) rfl dX1_keep_178 ?_
      refine lv_bipush (v := 40) hx hb dX1_keep_181 (by decide) ?_
      refine lv_iload_n hx hb dX1_keep_183 rfl (lv_at hl 1 rfl) ?_
      refine lv_imul hx hb dX1_keep_184 ?_
      refine lv_iload hx hb dX1_keep_185 (lv_at hl 5 rfl) ?_
      refine lv_iadd hx hb dX1_keep_187 ?_
      refine lv_lload_n hx hb dX1_keep_188 rfl (lv_at hl 2 rfl) ?_
      refine z_last hx hb hK hP hD hS 3 2 rfl rfl h dX1_keep_189 (fun j_7 H locs h hP hD hS => ?_)
      have hP : va_P (dC, dI) vwCl (wX1 ad cA nW nH th fn wd dk mn (vp_updL cs j_7 a2) nx gs pr ln wy ct bf sg my) H := hP
      have hD : va_D A (wX1 ad cA nW nH th fn wd dk mn (vp_updL cs j_7 a2) nx gs pr ln wy ct bf sg my) := hD
      refine lv_aload_n hx hb dX1_keep_190 rfl (lv_at hl 0 rfl) ?_
      refine va_get (D := (dC, dI)) (ci := 2) (v := .ref (ad 4)) (C := RX1) (T := TX1) (N := 17) hx hb hts in_X1_keep hown hK hP 0 rfl rfl 6 (by decide) (hts (.fieldLink RX1 21 "SignCutterModel" "nexts" "[I") (by decide +kernel)) (fun _ h9 => h9) rfl dX1_keep_191 ?_
      refine lv_bipush (v := 40) hx hb dX1_keep_194 (by decide) ?_
      refine lv_iload_n hx hb dX1_keep_196 rfl (lv_at hl 1 rfl) ?_
      refine lv_imul hx hb dX1_keep_197 ?_
      refine lv_iload hx hb dX1_keep_198 (lv_at hl 5 rfl) ?_
      refine lv_iadd hx hb dX1_keep_200 ?_
      refine lv_iload hx hb dX1_keep_201 (lv_at hl 3 rfl) ?_
      refine z_iast hx hb hK hP hD hS 4 3 rfl rfl h dX1_keep_203 (fun j_8 H locs h hP hD hS => ?_)
      have hP : va_P (dC, dI) vwCl (wX1 ad cA nW nH th fn wd dk mn (vp_updL cs j_7 a2) (upd nx j_8 a4) gs pr ln wy ct bf sg my) H := hP
      have hD : va_D A (wX1 ad cA nW nH th fn wd dk mn (vp_updL cs j_7 a2) (upd nx j_8 a4) gs pr ln wy ct bf sg my) := hD
      refine lv_aload_n hx hb dX1_keep_204 rfl (lv_at hl 0 rfl) ?_
      refine va_get (D := (dC, dI)) (ci := 2) (v := .ref (ad 5)) (C := RX1) (T := TX1) (N := 17) hx hb hts in_X1_keep hown hK hP 0 rfl rfl 7 (by decide) (hts (.fieldLink RX1 24 "SignCutterModel" "goes" "[I") (by decide +kernel)) (fun _ h9 => h9) rfl dX1_keep_205 ?_
      refine lv_bipush (v := 40) hx hb dX1_keep_208 (by decide) ?_
      refine lv_iload_n hx hb dX1_keep_210 rfl (lv_at hl 1 rfl) ?_
      refine lv_imul hx hb dX1_keep_211 ?_
      refine lv_iload hx hb dX1_keep_212 (lv_at hl 5 rfl) ?_
      refine lv_iadd hx hb dX1_keep_214 ?_
      refine lv_iload hx hb dX1_keep_215 (lv_at hl 4 rfl) ?_
      refine z_iast hx hb hK hP hD hS 5 4 rfl rfl h dX1_keep_217 (fun j_9 H locs h hP hD hS => ?_)
      have hP : va_P (dC, dI) vwCl (wX1 ad cA nW nH th fn wd dk mn (vp_updL cs j_7 a2) (upd nx j_8 a4) (upd gs j_9 a5) pr ln wy ct bf sg my) H := hP
      have hD : va_D A (wX1 ad cA nW nH th fn wd dk mn (vp_updL cs j_7 a2) (upd nx j_8 a4) (upd gs j_9 a5) pr ln wy ct bf sg my) := hD
      exact W.vret hx hb hr (hQ _ _ _ _ _ _ hP hD hS h) hS.2.2 dX1_keep_218
    · have h := h.2 c
      refine lv_aload_n hx hb dX1_keep_93 rfl (lv_at hl 0 rfl) ?_
      refine va_get (D := (dC, dI)) (ci := 2) (v := .ref (ad 3)) (C := RX1) (T := TX1) (N := 17) hx hb hts in_X1_keep hown hK hP 0 rfl rfl 5 (by decide) (hts (.fieldLink RX1 17 "SignCutterModel" "costs" "[J") (by decide +kernel)) (fun _ h9 => h9) rfl dX1_keep_94 ?_
      refine lv_bipush (v := 40) hx hb dX1_keep_97 (by decide) ?_
      refine lv_iload_n hx hb dX1_keep_99 rfl (lv_at hl 1 rfl) ?_
      refine lv_imul hx hb dX1_keep_100 ?_
      refine lv_iload hx hb dX1_keep_101 (lv_at hl 6 rfl) ?_
      refine lv_iadd hx hb dX1_keep_103 ?_
      refine lv_aload_n hx hb dX1_keep_104 rfl (lv_at hl 0 rfl) ?_
      refine va_get (D := (dC, dI)) (ci := 2) (v := .ref (ad 3)) (C := RX1) (T := TX1) (N := 17) hx hb hts in_X1_keep hown hK hP 0 rfl rfl 5 (by decide) (hts (.fieldLink RX1 17 "SignCutterModel" "costs" "[J") (by decide +kernel)) (fun _ h9 => h9) rfl dX1_keep_105 ?_
      refine lv_bipush (v := 40) hx hb dX1_keep_108 (by decide) ?_
      refine lv_iload_n hx hb dX1_keep_110 rfl (lv_at hl 1 rfl) ?_
      refine lv_imul hx hb dX1_keep_111 ?_
      refine lv_iload hx hb dX1_keep_112 (lv_at hl 6 rfl) ?_
      refine lv_iadd hx hb dX1_keep_114 ?_
      refine lv_iconst (v := 1) hx hb dX1_keep_115 (by decide) ?_
      refine lv_isub hx hb dX1_keep_116 ?_
      refine z_lald hx hb hK hP 3 2 rfl rfl h dX1_keep_117 (fun j_10 h => ?_)
      refine z_last hx hb hK hP hD hS 3 2 rfl rfl h dX1_keep_118 (fun j_11 H locs h hP hD hS => ?_)
      have hP : va_P (dC, dI) vwCl (wX1 ad cA nW nH th fn wd dk mn (vp_updL cs j_11 (cs j_10)) nx gs pr ln wy ct bf sg my) H := hP
      have hD : va_D A (wX1 ad cA nW nH th fn wd dk mn (vp_updL cs j_11 (cs j_10)) nx gs pr ln wy ct bf sg my) := hD
      refine lv_aload_n hx hb dX1_keep_119 rfl (lv_at hl 0 rfl) ?_
      refine va_get (D := (dC, dI)) (ci := 2) (v := .ref (ad 4)) (C := RX1) (T := TX1) (N := 17) hx hb hts in_X1_keep hown hK hP 0 rfl rfl 6 (by decide) (hts (.fieldLink RX1 21 "SignCutterModel" "nexts" "[I") (by decide +kernel)) (fun _ h9 => h9) rfl dX1_keep_120 ?_
      refine lv_bipush (v := 40) hx hb dX1_keep_123 (by decide) ?_
      refine lv_iload_n hx hb dX1_keep_125 rfl (lv_at hl 1 rfl) ?_
      refine lv_imul hx hb dX1_keep_126 ?_
      refine lv_iload hx hb dX1_keep_127 (lv_at hl 6 rfl) ?_
      refine lv_iadd hx hb dX1_keep_129 ?_
      refine lv_aload_n hx hb dX1_keep_130 rfl (lv_at hl 0 rfl) ?_
      refine va_get (D := (dC, dI)) (ci := 2) (v := .ref (ad 4)) (C := RX1) (T := TX1) (N := 17) hx hb hts in_X1_keep hown hK hP 0 rfl rfl 6 (by decide) (hts (.fieldLink RX1 21 "SignCutterModel" "nexts" "[I") (by decide +kernel)) (fun _ h9 => h9) rfl dX1_keep_131 ?_
      refine lv_bipush (v := 40) hx hb dX1_keep_134 (by decide) ?_
      refine lv_iload_n hx hb dX1_keep_136 rfl (lv_at hl 1 rfl) ?_
      refine lv_imul hx hb dX1_keep_137 ?_
      refine lv_iload hx hb dX1_keep_138 (lv_at hl 6 rfl) ?_
      refine lv_iadd hx hb dX1_keep_140 ?_
      refine lv_iconst (v := 1) hx hb dX1_keep_141 (by decide) ?_
      refine lv_isub hx hb dX1_keep_142 ?_
      refine z_iald hx hb hK hP 4 3 rfl rfl h dX1_keep_143 (fun j_12 h => ?_)
      refine z_iast hx hb hK hP hD hS 4 3 rfl rfl h dX1_keep_144 (fun j_13 H locs h hP hD hS => ?_)
      have hP : va_P (dC, dI) vwCl (wX1 ad cA nW nH th fn wd dk mn (vp_updL cs j_11 (cs j_10)) (upd nx j_13 (nx j_12)) gs pr ln wy ct bf sg my) H := hP
      have hD : va_D A (wX1 ad cA nW nH th fn wd dk mn (vp_updL cs j_11 (cs j_10)) (upd nx j_13 (nx j_12)) gs pr ln wy ct bf sg my) := hD
      refine lv_aload_n hx hb dX1_keep_145 rfl (lv_at hl 0 rfl) ?_
      refine va_get (D := (dC, dI)) (ci := 2) (v := .ref (ad 5)) (C := RX1) (T := TX1) (N := 17) hx hb hts in_X1_keep hown hK hP 0 rfl rfl 7 (by decide) (hts (.fieldLink RX1 24 "SignCutterModel" "goes" "[I") (by decide +kernel)) (fun _ h9 => h9) rfl dX1_keep_146 ?_
      refine lv_bipush (v := 40) hx hb dX1_keep_149 (by decide) ?_
      refine lv_iload_n hx hb dX1_keep_151 rfl (lv_at hl 1 rfl) ?_
      refine lv_imul hx hb dX1_keep_152 ?_
      refine lv_iload hx hb dX1_keep_153 (lv_at hl 6 rfl) ?_
      refine lv_iadd hx hb dX1_keep_155 ?_
      refine lv_aload_n hx hb dX1_keep_156 rfl (lv_at hl 0 rfl) ?_
      refine va_get (D := (dC, dI)) (ci := 2) (v := .ref (ad 5)) (C := RX1) (T := TX1) (N := 17) hx hb hts in_X1_keep hown hK hP 0 rfl rfl 7 (by decide) (hts (.fieldLink RX1 24 "SignCutterModel" "goes" "[I") (by decide +kernel)) (fun _ h9 => h9) rfl dX1_keep_157 ?_
      refine lv_bipush (v := 40) hx hb dX1_keep_160 (by decide) ?_
      refine lv_iload_n hx hb dX1_keep_162 rfl (lv_at hl 1 rfl) ?_
      refine lv_imul hx hb dX1_keep_163 ?_
      refine lv_iload hx hb dX1_keep_164 (lv_at hl 6 rfl) ?_
      refine lv_iadd hx hb dX1_keep_166 ?_
      refine lv_iconst (v := 1) hx hb dX1_keep_167 (by decide) ?_
      refine lv_isub hx hb dX1_keep_168 ?_
      refine z_iald hx hb hK hP 5 4 rfl rfl h dX1_keep_169 (fun j_14 h => ?_)
      refine z_iast hx hb hK hP hD hS 5 4 rfl rfl h dX1_keep_170 (fun j_15 H locs h hP hD hS => ?_)
      have hP : va_P (dC, dI) vwCl (wX1 ad cA nW nH th fn wd dk mn (vp_updL cs j_11 (cs j_10)) (upd nx j_13 (nx j_12)) (upd gs j_15 (gs j_14)) pr ln wy ct bf sg my) H := hP
      have hD : va_D A (wX1 ad cA nW nH th fn wd dk mn (vp_updL cs j_11 (cs j_10)) (upd nx j_13 (nx j_12)) (upd gs j_15 (gs j_14)) pr ln wy ct bf sg my) := hD
      refine lv_iinc (v := (x7 + (-1))) (lv' := [(7, .int (x7 + (-1))), (0, .ref (ad 0)), (1, .int a1), (2, .long a2), (4, .int a4), (5, .int a5), (6, .int x6)]) hx hb dX1_keep_171 hl (k := 6) rfl rfl (by decide) rfl (fun ls hl => ?_)
      refine lv_goto (tgt := 86) hx hb dX1_keep_174 (by decide) ?_
      exact hr86 _ _ _ _ _ _ _ _ hP hD hS ls (lv_sub hl [1, 2, 3, 4, 5, 6, 0] rfl) h
set_option maxHeartbeats 4000000 in
set_option maxRecDepth 100000 in
theorem tX1_keep_75 {p : Program} {l : Launch} {e : Env} {s : State} {m : MethodId} {args : Array Value} {below : List Frame} {meth : Method} {c : Code} {dC : Nat → ClassId} {dI : Nat → Nat → Nat} {ad : Nat → Nat} {cA : Nat → ClassId} {nW : Nat} {nH : Nat} {th : Int32} {fn : Int32} {wd : Int32} {dk : Nat → Int32} {pr : Nat → Int64} {ln : Nat → Int32} {wy : Nat → Int32} {ct : Nat → Int64} {bf : Nat → Int64} {sg : Nat → Int64} {my : Nat → Int32} {a1 : Int32} {a2 : Int64} {a4 : Int32} {a5 : Int32} {Post : (Nat → Int32) → (Nat → Int64) → (Nat → Int32) → (Nat → Int32) → Prop} (hC : zC p s m args meth c cX1_keep wsX1_keep none 8 RX1) (hK : va_K (dC, dI) vwCl (tX1 cA) s) {A : Nat → Prop} (hA : ∀ q, s.heap.size ≤ q → A q) {Qc : Array Value → State → Outcome → State → Prop} (hQ : ∀ (mn : Nat → Int32) (cs : Nat → Int64) (nx : Nat → Int32) (gs : Nat → Int32) (H : Heap) (locs : List Loc), va_P (dC, dI) vwCl (wX1 ad cA nW nH th fn wd dk mn cs nx gs pr ln wy ct bf sg my) H → va_D A (wX1 ad cA nW nH th fn wd dk mn cs nx gs pr ln wy ct bf sg my) → va_S A s.heap H locs → Post mn cs nx gs → ∀ t : State, t.heap = H → s.WarmedH t.vm → Qc args s (.returned none) t) : ∀ (x6 : Int32) (s0 : Int32) (s1 : Int32) (mn : Nat → Int32) (cs : Nat → Int64) (nx : Nat → Int32) (gs : Nat → Int32) (H : Heap) (locs : List Loc), va_P (dC, dI) vwCl (wX1 ad cA nW nH th fn wd dk mn cs nx gs pr ln wy ct bf sg my) H → va_D A (wX1 ad cA nW nH th fn wd dk mn cs nx gs pr ln wy ct bf sg my) → va_S A s.heap H locs → ∀ (ls : Array Slot), lv_has ls 8 [(0, .ref (ad 0)), (1, .int a1), (2, .long a2), (4, .int a4), (5, .int a5), (6, .int x6)] → jX1_keep_75 a1 a2 a4 a5 Post x6 s0 s1 mn cs nx gs → W p l e ({ frames := 0, cells := 0, slots := 0, locals := 0 } : Room) s m args below meth c H locs 0 0 (MQ below Qc args s 0 0 A) (F0 m 75 ls [.int s0, .int s1, .ref (ad 2)]) := by
  have hC0 := hC
  obtain ⟨hx, hb, hr, hml, hown, hts, hlocks⟩ := hC
  intro x6 s0 s1 mn cs nx gs H locs hP hD hS ls hl h
  unfold jX1_keep_75 at h
  refine z_iast hx hb hK hP hD hS 2 1 rfl rfl h dX1_keep_75 (fun j_4 H locs h hP hD hS => ?_)
  have hP : va_P (dC, dI) vwCl (wX1 ad cA nW nH th fn wd dk (upd mn j_4 s0) cs nx gs pr ln wy ct bf sg my) H := hP
  have hD : va_D A (wX1 ad cA nW nH th fn wd dk (upd mn j_4 s0) cs nx gs pr ln wy ct bf sg my) := hD
  refine lv_aload_n hx hb dX1_keep_76 rfl (lv_at hl 0 rfl) ?_
  refine va_get (D := (dC, dI)) (ci := 2) (v := .ref (ad 2)) (C := RX1) (T := TX1) (N := 17) hx hb hts in_X1_keep hown hK hP 0 rfl rfl 4 (by decide) (hts (.fieldLink RX1 13 "SignCutterModel" "many" "[I") (by decide +kernel)) (fun _ h9 => h9) rfl dX1_keep_77 ?_
  refine lv_iload_n hx hb dX1_keep_80 rfl (lv_at hl 1 rfl) ?_
  refine z_iald hx hb hK hP 2 1 rfl rfl h dX1_keep_81 (fun j_5 h => ?_)
  refine lv_iconst (v := 1) hx hb dX1_keep_82 (by decide) ?_
  refine lv_isub hx hb dX1_keep_83 ?_
  refine lv_topi (fun x7_6 ex7_6 => ?_)
  have h := h x7_6 ex7_6
  refine lv_istore (lv' := [(7, .int x7_6), (0, .ref (ad 0)), (1, .int a1), (2, .long a2), (4, .int a4), (5, .int a5), (6, .int x6)]) hx hb dX1_keep_84 hl (by decide) rfl (fun ls hl => ?_)
  obtain ⟨n_16, h⟩ := h
  exact tX1_keep_86 hC0 hK hA hQ n_16 _ _ _ _ _ _ _ _ hP hD hS ls (lv_sub hl [1, 2, 3, 4, 5, 6, 0] rfl) h
set_option maxHeartbeats 4000000 in
set_option maxRecDepth 100000 in
theorem tX1_keep_38 {p : Program} {l : Launch} {e : Env} {s : State} {m : MethodId} {args : Array Value} {below : List Frame} {meth : Method} {c : Code} {dC : Nat → ClassId} {dI : Nat → Nat → Nat} {ad : Nat → Nat} {cA : Nat → ClassId} {nW : Nat} {nH : Nat} {th : Int32} {fn : Int32} {wd : Int32} {dk : Nat → Int32} {pr : Nat → Int64} {ln : Nat → Int32} {wy : Nat → Int32} {ct : Nat → Int64} {bf : Nat → Int64} {sg : Nat → Int64} {my : Nat → Int32} {a1 : Int32} {a2 : Int64} {a4 : Int32} {a5 : Int32} {Post : (Nat → Int32) → (Nat → Int64) → (Nat → Int32) → (Nat → Int32) → Prop} (hC : zC p s m args meth c cX1_keep wsX1_keep none 8 RX1) (hK : va_K (dC, dI) vwCl (tX1 cA) s) {A : Nat → Prop} (hA : ∀ q, s.heap.size ≤ q → A q) {Qc : Array Value → State → Outcome → State → Prop} (hQ : ∀ (mn : Nat → Int32) (cs : Nat → Int64) (nx : Nat → Int32) (gs : Nat → Int32) (H : Heap) (locs : List Loc), va_P (dC, dI) vwCl (wX1 ad cA nW nH th fn wd dk mn cs nx gs pr ln wy ct bf sg my) H → va_D A (wX1 ad cA nW nH th fn wd dk mn cs nx gs pr ln wy ct bf sg my) → va_S A s.heap H locs → Post mn cs nx gs → ∀ t : State, t.heap = H → s.WarmedH t.vm → Qc args s (.returned none) t) : ∀ (x6 : Int32) (mn : Nat → Int32) (cs : Nat → Int64) (nx : Nat → Int32) (gs : Nat → Int32) (H : Heap) (locs : List Loc), va_P (dC, dI) vwCl (wX1 ad cA nW nH th fn wd dk mn cs nx gs pr ln wy ct bf sg my) H → va_D A (wX1 ad cA nW nH th fn wd dk mn cs nx gs pr ln wy ct bf sg my) → va_S A s.heap H locs → ∀ (ls : Array Slot), lv_has ls 8 [(0, .ref (ad 0)), (1, .int a1), (2, .long a2), (4, .int a4), (5, .int a5), (6, .int x6)] → jX1_keep_38 a1 a2 a4 a5 Post x6 mn cs nx gs → W p l e ({ frames := 0, cells := 0, slots := 0, locals := 0 } : Room) s m args below meth c H locs 0 0 (MQ below Qc args s 0 0 A) (F0 m 38 ls []) := by
  have hC0 := hC
  obtain ⟨hx, hb, hr, hml, hown, hts, hlocks⟩ := hC
  intro x6 mn cs nx gs H locs hP hD hS ls hl h
  unfold jX1_keep_38 at h
  refine lv_iload hx hb dX1_keep_38 (lv_at hl 5 rfl) ?_
  refine lv_bipush (v := 40) hx hb dX1_keep_40 (by decide) ?_
  refine lv_icmp_ne (tgt := 46) hx hb dX1_keep_42 (by decide) (fun c => ?_) (fun c => ?_)
  · have h := h.2 c
    refine lv_aload_n hx hb dX1_keep_46 rfl (lv_at hl 0 rfl) ?_
    refine va_get (D := (dC, dI)) (ci := 2) (v := .ref (ad 2)) (C := RX1) (T := TX1) (N := 17) hx hb hts in_X1_keep hown hK hP 0 rfl rfl 4 (by decide) (hts (.fieldLink RX1 13 "SignCutterModel" "many" "[I") (by decide +kernel)) (fun _ h9 => h9) rfl dX1_keep_47 ?_
    refine lv_iload_n hx hb dX1_keep_50 rfl (lv_at hl 1 rfl) ?_
    refine lv_aload_n hx hb dX1_keep_51 rfl (lv_at hl 0 rfl) ?_
    refine va_get (D := (dC, dI)) (ci := 2) (v := .ref (ad 2)) (C := RX1) (T := TX1) (N := 17) hx hb hts in_X1_keep hown hK hP 0 rfl rfl 4 (by decide) (hts (.fieldLink RX1 13 "SignCutterModel" "many" "[I") (by decide +kernel)) (fun _ h9 => h9) rfl dX1_keep_52 ?_
    refine lv_iload_n hx hb dX1_keep_55 rfl (lv_at hl 1 rfl) ?_
    refine z_iald hx hb hK hP 2 1 rfl rfl h dX1_keep_56 (fun j_3 h => ?_)
    refine lv_bipush (v := 40) hx hb dX1_keep_57 (by decide) ?_
    refine lv_icmp_ge (tgt := 73) hx hb dX1_keep_59 (by decide) (fun c => ?_) (fun c => ?_)
    · have h := h.1 c
      refine lv_bipush (v := 40) hx hb dX1_keep_73 (by decide) ?_
      exact tX1_keep_75 hC0 hK hA hQ _ _ _ _ _ _ _ _ _ hP hD hS ls (lv_sub hl [0, 1, 2, 3, 4, 5] rfl) h
    · have h := h.2 c
      refine lv_aload_n hx hb dX1_keep_62 rfl (lv_at hl 0 rfl) ?_
      refine va_get (D := (dC, dI)) (ci := 2) (v := .ref (ad 2)) (C := RX1) (T := TX1) (N := 17) hx hb hts in_X1_keep hown hK hP 0 rfl rfl 4 (by decide) (hts (.fieldLink RX1 13 "SignCutterModel" "many" "[I") (by decide +kernel)) (fun _ h9 => h9) rfl dX1_keep_63 ?_
      refine lv_iload_n hx hb dX1_keep_66 rfl (lv_at hl 1 rfl) ?_
      refine z_iald hx hb hK hP 2 1 rfl rfl h dX1_keep_67 (fun j_17 h => ?_)
      refine lv_iconst (v := 1) hx hb dX1_keep_68 (by decide) ?_
      refine lv_iadd hx hb dX1_keep_69 ?_
      refine lv_goto (tgt := 75) hx hb dX1_keep_70 (by decide) ?_
      exact tX1_keep_75 hC0 hK hA hQ _ _ _ _ _ _ _ _ _ hP hD hS ls (lv_sub hl [0, 1, 2, 3, 4, 5] rfl) h
  · have h := h.1 c
    exact W.vret hx hb hr (hQ _ _ _ _ _ _ hP hD hS h) hS.2.2 dX1_keep_45
set_option maxHeartbeats 4000000 in
set_option maxRecDepth 100000 in
theorem tX1_keep_8 {p : Program} {l : Launch} {e : Env} {s : State} {m : MethodId} {args : Array Value} {below : List Frame} {meth : Method} {c : Code} {dC : Nat → ClassId} {dI : Nat → Nat → Nat} {ad : Nat → Nat} {cA : Nat → ClassId} {nW : Nat} {nH : Nat} {th : Int32} {fn : Int32} {wd : Int32} {dk : Nat → Int32} {pr : Nat → Int64} {ln : Nat → Int32} {wy : Nat → Int32} {ct : Nat → Int64} {bf : Nat → Int64} {sg : Nat → Int64} {my : Nat → Int32} {a1 : Int32} {a2 : Int64} {a4 : Int32} {a5 : Int32} {Post : (Nat → Int32) → (Nat → Int64) → (Nat → Int32) → (Nat → Int32) → Prop} (hC : zC p s m args meth c cX1_keep wsX1_keep none 8 RX1) (hK : va_K (dC, dI) vwCl (tX1 cA) s) {A : Nat → Prop} (hA : ∀ q, s.heap.size ≤ q → A q) {Qc : Array Value → State → Outcome → State → Prop} (hQ : ∀ (mn : Nat → Int32) (cs : Nat → Int64) (nx : Nat → Int32) (gs : Nat → Int32) (H : Heap) (locs : List Loc), va_P (dC, dI) vwCl (wX1 ad cA nW nH th fn wd dk mn cs nx gs pr ln wy ct bf sg my) H → va_D A (wX1 ad cA nW nH th fn wd dk mn cs nx gs pr ln wy ct bf sg my) → va_S A s.heap H locs → Post mn cs nx gs → ∀ t : State, t.heap = H → s.WarmedH t.vm → Qc args s (.returned none) t) : ∀ (n : Nat), ∀ (x6 : Int32) (mn : Nat → Int32) (cs : Nat → Int64) (nx : Nat → Int32) (gs : Nat → Int32) (H : Heap) (locs : List Loc), va_P (dC, dI) vwCl (wX1 ad cA nW nH th fn wd dk mn cs nx gs pr ln wy ct bf sg my) H → va_D A (wX1 ad cA nW nH th fn wd dk mn cs nx gs pr ln wy ct bf sg my) → va_S A s.heap H locs → ∀ (ls : Array Slot), lv_has ls 8 [(0, .ref (ad 0)), (1, .int a1), (2, .long a2), (4, .int a4), (5, .int a5), (6, .int x6)] → lX1_keep_8 a1 a2 a4 a5 Post n x6 mn cs nx gs → W p l e ({ frames := 0, cells := 0, slots := 0, locals := 0 } : Room) s m args below meth c H locs 0 0 (MQ below Qc args s 0 0 A) (F0 m 8 ls []) := by
  have hC0 := hC
  obtain ⟨hx, hb, hr, hml, hown, hts, hlocks⟩ := hC
  intro n
  induction n with
  | zero =>
    intro x6 mn cs nx gs H locs hP hD hS ls hl h
    exact h.elim
  | succ n hr8 =>
    intro x6 mn cs nx gs H locs hP hD hS ls hl h
    have h : bX1_keep_8 a1 a2 a4 a5 Post (lX1_keep_8 a1 a2 a4 a5 Post n) x6 mn cs nx gs := h
    unfold bX1_keep_8 at h
    refine lv_iload hx hb dX1_keep_8 (lv_at hl 5 rfl) ?_
    refine lv_if_le (tgt := 38) hx hb dX1_keep_10 (by decide) (fun c => ?_) (fun c => ?_)
    · have h := h.1 c
      exact tX1_keep_38 hC0 hK hA hQ _ _ _ _ _ _ _ hP hD hS ls (lv_sub hl [0, 1, 2, 3, 4, 5] rfl) h
    · have h := h.2 c
      refine lv_aload_n hx hb dX1_keep_13 rfl (lv_at hl 0 rfl) ?_
      refine va_get (D := (dC, dI)) (ci := 2) (v := .ref (ad 3)) (C := RX1) (T := TX1) (N := 17) hx hb hts in_X1_keep hown hK hP 0 rfl rfl 5 (by decide) (hts (.fieldLink RX1 17 "SignCutterModel" "costs" "[J") (by decide +kernel)) (fun _ h9 => h9) rfl dX1_keep_14 ?_
      refine lv_bipush (v := 40) hx hb dX1_keep_17 (by decide) ?_
      refine lv_iload_n hx hb dX1_keep_19 rfl (lv_at hl 1 rfl) ?_
      refine lv_imul hx hb dX1_keep_20 ?_
      refine lv_iload hx hb dX1_keep_21 (lv_at hl 5 rfl) ?_
      refine lv_iadd hx hb dX1_keep_23 ?_
      refine lv_iconst (v := 1) hx hb dX1_keep_24 (by decide) ?_
      refine lv_isub hx hb dX1_keep_25 ?_
      refine z_lald hx hb hK hP 3 2 rfl rfl h dX1_keep_26 (fun j_18 h => ?_)
      refine lv_lload_n hx hb dX1_keep_27 rfl (lv_at hl 2 rfl) ?_
      refine W.lcmp hx hb dX1_keep_28 ?_
      refine lv_if_le (tgt := 38) hx hb dX1_keep_29 (by decide) (fun c => ?_) (fun c => ?_)
      · have h := h.1 c
        exact tX1_keep_38 hC0 hK hA hQ _ _ _ _ _ _ _ hP hD hS ls (lv_sub hl [0, 1, 2, 3, 4, 5] rfl) h
      · have h := h.2 c
        refine lv_iinc (v := (x6 + (-1))) (lv' := [(6, .int (x6 + (-1))), (0, .ref (ad 0)), (1, .int a1), (2, .long a2), (4, .int a4), (5, .int a5)]) hx hb dX1_keep_32 hl (k := 5) rfl rfl (by decide) rfl (fun ls hl => ?_)
        refine lv_goto (tgt := 8) hx hb dX1_keep_35 (by decide) ?_
        exact hr8 _ _ _ _ _ _ _ hP hD hS ls (lv_sub hl [1, 2, 3, 4, 5, 0] rfl) h
set_option maxHeartbeats 4000000 in
set_option maxRecDepth 100000 in
theorem mX1_keep (l : Launch) {dC : Nat → ClassId} {dI : Nat → Nat → Nat} {ad : Nat → Nat} {cA : Nat → ClassId} {nW : Nat} {nH : Nat} {th : Int32} {fn : Int32} {wd : Int32} {dk : Nat → Int32} {mn : Nat → Int32} {cs : Nat → Int64} {nx : Nat → Int32} {gs : Nat → Int32} {pr : Nat → Int64} {ln : Nat → Int32} {wy : Nat → Int32} {ct : Nat → Int64} {bf : Nat → Int64} {sg : Nat → Int64} {my : Nat → Int32} {sz : Nat} {a1 : Int32} {a2 : Int64} {a4 : Int32} {a5 : Int32} {Post : (Nat → Int32) → (Nat → Int64) → (Nat → Int32) → (Nat → Int32) → Prop} (h : wX1_keep mn cs nx gs a1 a2 a4 a5 Post) : Met l yX1_keep wsX1_keep ({ frames := 0, cells := 0, slots := 0, locals := 0 } : Room) (zPw (dC, dI) vwCl (tX1 cA) (wX1 ad cA nW nH th fn wd dk mn cs nx gs pr ln wy ct bf sg my) sz [.ref (ad 0), .int a1, .long a2, .int a4, .int a5]) (va_Qv (S := (Nat → Int32) × (Nat → Int64) × (Nat → Int32) × (Nat → Int32)) (fun (u : (Nat → Int32) × (Nat → Int64) × (Nat → Int32) × (Nat → Int32)) => Post u.1 u.2.1 u.2.2.1 u.2.2.2) (zB (dC, dI) vwCl (tX1 cA) (wX1 ad cA nW nH th fn wd dk mn cs nx gs pr ln wy ct bf sg my) sz (fun u : (Nat → Int32) × (Nat → Int64) × (Nat → Int32) × (Nat → Int32) => wX1 ad cA nW nH th fn wd dk u.1 u.2.1 u.2.2.1 u.2.2.2 pr ln wy ct bf sg my)) (va_A (wX1 ad cA nW nH th fn wd dk mn cs nx gs pr ln wy ct bf sg my) sz)) 0 0 (va_A (wX1 ad cA nW nH th fn wd dk mn cs nx gs pr ln wy ct bf sg my) sz) := by
  refine Met.ofW (cc := cX1_keep) (maxL := 8) (ret := none) (by decide) rfl ?_
  intro p e s m args below meth c s₁ B hml hv
  obtain ⟨rfl, hsz, hP, hK, hD0⟩ := hv
  have hC : zC p s m [.ref (ad 0), .int a1, .long a2, .int a4, .int a5].toArray meth c cX1_keep wsX1_keep none 8 RX1 := ⟨B.exec, B.bytes, B.returns, hml, findClass_of_methodNamed B.named, atoms_spec (ws := wsX1_keep) B.pre, B.notSynchronized⟩
  have hC0 := hC
  obtain ⟨hx, hb, hr, hml, hown, hts, hlocks⟩ := hC
  subst hsz
  have hD := hD0.self (sz := s.heap.size)
  have hA : ∀ q : Nat, s.heap.size ≤ q → va_A (wX1 ad cA nW nH th fn wd dk mn cs nx gs pr ln wy ct bf sg my) s.heap.size q := fun q h => Or.inr h
  have hS : va_S (va_A (wX1 ad cA nW nH th fn wd dk mn cs nx gs pr ln wy ct bf sg my) s.heap.size) s.heap s.heap [] := va_S.rf
  generalize hQe : (va_Qv (S := (Nat → Int32) × (Nat → Int64) × (Nat → Int32) × (Nat → Int32)) (fun (u : (Nat → Int32) × (Nat → Int64) × (Nat → Int32) × (Nat → Int32)) => Post u.1 u.2.1 u.2.2.1 u.2.2.2) (zB (dC, dI) vwCl (tX1 cA) (wX1 ad cA nW nH th fn wd dk mn cs nx gs pr ln wy ct bf sg my) s.heap.size (fun u : (Nat → Int32) × (Nat → Int64) × (Nat → Int32) × (Nat → Int32) => wX1 ad cA nW nH th fn wd dk u.1 u.2.1 u.2.2.1 u.2.2.2 pr ln wy ct bf sg my)) (va_A (wX1 ad cA nW nH th fn wd dk mn cs nx gs pr ln wy ct bf sg my) s.heap.size)) = Qc
  generalize hAe : va_A (wX1 ad cA nW nH th fn wd dk mn cs nx gs pr ln wy ct bf sg my) s.heap.size = A at hD hA hS hQe ⊢
  have hQ : ∀ (mn : Nat → Int32) (cs : Nat → Int64) (nx : Nat → Int32) (gs : Nat → Int32) (H : Heap) (locs : List Loc), va_P (dC, dI) vwCl (wX1 ad cA nW nH th fn wd dk mn cs nx gs pr ln wy ct bf sg my) H → va_D A (wX1 ad cA nW nH th fn wd dk mn cs nx gs pr ln wy ct bf sg my) → va_S A s.heap H locs → Post mn cs nx gs → ∀ t : State, t.heap = H → s.WarmedH t.vm → Qc [.ref (ad 0), .int a1, .long a2, .int a4, .int a5].toArray s (.returned none) t := by
    intro mn cs nx gs H locs hP hD hS h t ht hW
    rw [← hQe]
    exact ⟨⟨(mn, cs, nx, gs), rfl, h, by rw [ht]; exact hP, va_K.moved hW.alike hK, hAe ▸ hD⟩, hS.F ht⟩
  clear hQe hAe
  have hl := lv_entry ([.ref (ad 0), .int a1, .long a2, .int a4, .int a5]) (n := 8) (Nat.le_of_ble_eq_true rfl)
  rw [lg_entry_eq]
  generalize (lg_sl ([.ref (ad 0), .int a1, .long a2, .int a4, .int a5]) ++ List.replicate (8 - (lg_sl ([.ref (ad 0), .int a1, .long a2, .int a4, .int a5])).length) Slot.unset).toArray = ls at hl ⊢
  have hl : lv_has ls 8 [(0, .ref (ad 0)), (1, .int a1), (2, .long a2), (4, .int a4), (5, .int a5)] := hl
  show W p l e ({ frames := 0, cells := 0, slots := 0, locals := 0 } : Room) s m _ below meth c s.heap [] 0 0 (MQ below Qc _ s 0 0 A) (F0 m 0 ls [])
  unfold wX1_keep at h
  refine lv_aload_n hx hb dX1_keep_0 rfl (lv_at hl 0 rfl) ?_
  refine va_get (D := (dC, dI)) (ci := 2) (v := .ref (ad 2)) (C := RX1) (T := TX1) (N := 17) hx hb hts in_X1_keep hown hK hP 0 rfl rfl 4 (by decide) (hts (.fieldLink RX1 13 "SignCutterModel" "many" "[I") (by decide +kernel)) (fun _ h9 => h9) rfl dX1_keep_1 ?_
  refine lv_iload_n hx hb dX1_keep_4 rfl (lv_at hl 1 rfl) ?_
  refine z_iald hx hb hK hP 2 1 rfl rfl h dX1_keep_5 (fun j_1 h => ?_)
  refine lv_topi (fun x6_2 ex6_2 => ?_)
  have h := h x6_2 ex6_2
  refine lv_istore (lv' := [(6, .int x6_2), (0, .ref (ad 0)), (1, .int a1), (2, .long a2), (4, .int a4), (5, .int a5)]) hx hb dX1_keep_6 hl (by decide) rfl (fun ls hl => ?_)
  obtain ⟨n_19, h⟩ := h
  exact tX1_keep_8 hC0 hK hA hQ n_19 _ _ _ _ _ _ _ hP hD hS ls (lv_sub hl [1, 2, 3, 4, 5, 0] rfl) h
theorem in_X1_look : ∀ w ∈ wsX10, w ∈ wsX1_look := by decide +kernel
set_option maxHeartbeats 4000000 in
set_option maxRecDepth 100000 in
theorem tX1_look_62 {p : Program} {l : Launch} {e : Env} {s : State} {m : MethodId} {args : Array Value} {below : List Frame} {meth : Method} {c : Code} {dC : Nat → ClassId} {dI : Nat → Nat → Nat} {ad : Nat → Nat} {cA : Nat → ClassId} {nW : Nat} {nH : Nat} {th : Int32} {fn : Int32} {dk : Nat → Int32} {mn : Nat → Int32} {cs : Nat → Int64} {nx : Nat → Int32} {gs : Nat → Int32} {pr : Nat → Int64} {ln : Nat → Int32} {wy : Nat → Int32} {ct : Nat → Int64} {bf : Nat → Int64} {a1 : Int32} {a2 : Int32} {Post : (Int32) → (Nat → Int64) → (Nat → Int32) → Prop} (hC : zC p s m args meth c cX1_look wsX1_look none 5 RX1) (hK : va_K (dC, dI) vwCl (tX1 cA) s) {A : Nat → Prop} (hA : ∀ q, s.heap.size ≤ q → A q) {Qc : Array Value → State → Outcome → State → Prop} (hQ : ∀ (wd : Int32) (sg : Nat → Int64) (my : Nat → Int32) (H : Heap) (locs : List Loc), va_P (dC, dI) vwCl (wX1 ad cA nW nH th fn wd dk mn cs nx gs pr ln wy ct bf sg my) H → va_D A (wX1 ad cA nW nH th fn wd dk mn cs nx gs pr ln wy ct bf sg my) → va_S A s.heap H locs → Post wd sg my → ∀ t : State, t.heap = H → s.WarmedH t.vm → Qc args s (.returned none) t) {r52 : Int32 → (Int32) → (Nat → Int64) → (Nat → Int32) → Prop} (hr52 : ∀ (x3 : Int32) (wd : Int32) (sg : Nat → Int64) (my : Nat → Int32) (H : Heap) (locs : List Loc), va_P (dC, dI) vwCl (wX1 ad cA nW nH th fn wd dk mn cs nx gs pr ln wy ct bf sg my) H → va_D A (wX1 ad cA nW nH th fn wd dk mn cs nx gs pr ln wy ct bf sg my) → va_S A s.heap H locs → ∀ (ls : Array Slot), lv_has ls 5 [(0, .ref (ad 0)), (1, .int a1), (2, .int a2), (3, .int x3)] → r52 x3 wd sg my → W p l e ({ frames := 5, cells := 0, slots := 0, locals := 109 } : Room) s m args below meth c H locs 0 0 (MQ below Qc args s 0 0 A) (F0 m 52 ls [])) : ∀ (n : Nat), ∀ (x3 : Int32) (x4 : Int32) (wd : Int32) (sg : Nat → Int64) (my : Nat → Int32) (H : Heap) (locs : List Loc), va_P (dC, dI) vwCl (wX1 ad cA nW nH th fn wd dk mn cs nx gs pr ln wy ct bf sg my) H → va_D A (wX1 ad cA nW nH th fn wd dk mn cs nx gs pr ln wy ct bf sg my) → va_S A s.heap H locs → ∀ (ls : Array Slot), lv_has ls 5 [(0, .ref (ad 0)), (1, .int a1), (2, .int a2), (3, .int x3), (4, .int x4)] → lX1_look_62 nW nH dk a1 a2 Post r52 n x3 x4 wd sg my → W p l e ({ frames := 5, cells := 0, slots := 0, locals := 109 } : Room) s m args below meth c H locs 0 0 (MQ below Qc args s 0 0 A) (F0 m 62 ls []) := by
  have hC0 := hC
  obtain ⟨hx, hb, hr, hml, hown, hts, hlocks⟩ := hC
  intro n
  induction n with
  | zero =>
    intro x3 x4 wd sg my H locs hP hD hS ls hl h
    exact h.elim
  | succ n hr62 =>
    intro x3 x4 wd sg my H locs hP hD hS ls hl h
    have h : bX1_look_62 nW nH dk a1 a2 Post r52 (lX1_look_62 nW nH dk a1 a2 Post r52 n) x3 x4 wd sg my := h
    unfold bX1_look_62 at h
    refine lv_iload hx hb dX1_look_62 (lv_at hl 4 rfl) ?_
    refine lv_iload_n hx hb dX1_look_64 rfl (lv_at hl 2 rfl) ?_
    refine lv_icmp_gt (tgt := 118) hx hb dX1_look_65 (by decide) (fun c => ?_) (fun c => ?_)
    · have h := h.1 c
      refine lv_iinc (v := (x3 + 1)) (lv' := [(3, .int (x3 + 1)), (0, .ref (ad 0)), (1, .int a1), (2, .int a2), (4, .int x4)]) hx hb dX1_look_118 hl (k := 3) rfl rfl (by decide) rfl (fun ls hl => ?_)
      refine lv_goto (tgt := 52) hx hb dX1_look_121 (by decide) ?_
      exact hr52 _ _ _ _ _ _ hP hD hS ls (lv_sub hl [1, 2, 3, 0] rfl) h
    · have h := h.2 c
      refine lv_aload_n hx hb dX1_look_68 rfl (lv_at hl 0 rfl) ?_
      refine va_get (D := (dC, dI)) (ci := 2) (v := .ref (ad 11)) (C := RX1) (T := TX1) (N := 17) hx hb hts in_X1_look hown hK hP 0 rfl rfl 14 (by decide) (hts (.fieldLink RX1 42 "SignCutterModel" "signs" "[J") (by decide +kernel)) (fun _ h9 => h9) rfl dX1_look_69 ?_
      refine lv_bipush (v := 61) hx hb dX1_look_72 (by decide) ?_
      refine lv_iload_n hx hb dX1_look_74 rfl (lv_at hl 3 rfl) ?_
      refine lv_imul hx hb dX1_look_75 ?_
      refine lv_iload hx hb dX1_look_76 (lv_at hl 4 rfl) ?_
      refine lv_iadd hx hb dX1_look_78 ?_
      refine lv_aload_n hx hb dX1_look_79 rfl (lv_at hl 0 rfl) ?_
      refine va_get (D := (dC, dI)) (ci := 2) (v := .ref (ad 12)) (C := RX1) (T := TX1) (N := 17) hx hb hts in_X1_look hown hK hP 0 rfl rfl 15 (by decide) (hts (.fieldLink RX1 45 "SignCutterModel" "may" "[Z") (by decide +kernel)) (fun _ h9 => h9) rfl dX1_look_80 ?_
      refine lv_iload_n hx hb dX1_look_83 rfl (lv_at hl 3 rfl) ?_
      refine z_zald hx hb hK hP 12 11 rfl rfl h dX1_look_84 (fun j_3 h => ?_)
      refine lv_if_eq (tgt := 108) hx hb dX1_look_85 (by decide) (fun c => ?_) (fun c => ?_)
      · have h := h.1 c
        refine lv_ldc2 hx hb hown (hts (.constantLong RX1 83 (-1)) (by decide +kernel)) dX1_look_108 ?_
        refine z_last hx hb hK hP hD hS 11 10 rfl rfl h dX1_look_111 (fun j_4 H locs h hP hD hS => ?_)
        have hP : va_P (dC, dI) vwCl (wX1 ad cA nW nH th fn wd dk mn cs nx gs pr ln wy ct bf (vp_updL sg j_4 (-1)) my) H := hP
        have hD : va_D A (wX1 ad cA nW nH th fn wd dk mn cs nx gs pr ln wy ct bf (vp_updL sg j_4 (-1)) my) := hD
        refine lv_iinc (v := (x4 + 1)) (lv' := [(4, .int (x4 + 1)), (0, .ref (ad 0)), (1, .int a1), (2, .int a2), (3, .int x3)]) hx hb dX1_look_112 hl (k := 4) rfl rfl (by decide) rfl (fun ls hl => ?_)
        refine lv_goto (tgt := 62) hx hb dX1_look_115 (by decide) ?_
        exact hr62 _ _ _ _ _ _ _ hP hD hS ls (lv_sub hl [1, 2, 3, 4, 0] rfl) h
      · have h := h.2 c
        refine lv_aload_n hx hb dX1_look_88 rfl (lv_at hl 0 rfl) ?_
        refine va_get (D := (dC, dI)) (ci := 2) (v := .ref (ad 12)) (C := RX1) (T := TX1) (N := 17) hx hb hts in_X1_look hown hK hP 0 rfl rfl 15 (by decide) (hts (.fieldLink RX1 45 "SignCutterModel" "may" "[Z") (by decide +kernel)) (fun _ h9 => h9) rfl dX1_look_89 ?_
        refine lv_iload hx hb dX1_look_92 (lv_at hl 4 rfl) ?_
        refine z_zald hx hb hK hP 12 11 rfl rfl h dX1_look_94 (fun j_5 h => ?_)
        refine lv_if_eq (tgt := 108) hx hb dX1_look_95 (by decide) (fun c => ?_) (fun c => ?_)
        · have h := h.1 c
          refine lv_ldc2 hx hb hown (hts (.constantLong RX1 83 (-1)) (by decide +kernel)) dX1_look_108 ?_
          refine z_last hx hb hK hP hD hS 11 10 rfl rfl h dX1_look_111 (fun j_6 H locs h hP hD hS => ?_)
          have hP : va_P (dC, dI) vwCl (wX1 ad cA nW nH th fn wd dk mn cs nx gs pr ln wy ct bf (vp_updL sg j_6 (-1)) my) H := hP
          have hD : va_D A (wX1 ad cA nW nH th fn wd dk mn cs nx gs pr ln wy ct bf (vp_updL sg j_6 (-1)) my) := hD
          refine lv_iinc (v := (x4 + 1)) (lv' := [(4, .int (x4 + 1)), (0, .ref (ad 0)), (1, .int a1), (2, .int a2), (3, .int x3)]) hx hb dX1_look_112 hl (k := 4) rfl rfl (by decide) rfl (fun ls hl => ?_)
          refine lv_goto (tgt := 62) hx hb dX1_look_115 (by decide) ?_
          exact hr62 _ _ _ _ _ _ _ hP hD hS ls (lv_sub hl [1, 2, 3, 4, 0] rfl) h
        · have h := h.2 c
          refine lv_aload_n hx hb dX1_look_98 rfl (lv_at hl 0 rfl) ?_
          refine lv_iload_n hx hb dX1_look_99 rfl (lv_at hl 3 rfl) ?_
          refine lv_iload hx hb dX1_look_100 (lv_at hl 4 rfl) ?_
          refine z_cVl (ci := 2) (As := [.int x3, .int x4]) (rest := [.int ((61 * x3) + x4), .ref (ad 11)]) ⟨hx, hb, hml, hown, hts⟩ (mX1_sign l h) (cwV 2 hts gX1_look_X1_sign rfl rfl rfl (by decide +kernel) ⟨Nat.le_of_ble_eq_true rfl, Nat.le_of_ble_eq_true rfl⟩) hK hP 0 rfl rfl rfl rfl hl.1 rfl (Nat.le_of_ble_eq_true rfl) dX1_look_102 ⟨Nat.le_of_ble_eq_true rfl, Nat.le_of_ble_eq_true rfl⟩ (fun r_7 h => ?_)
          refine lv_goto (tgt := 111) hx hb dX1_look_105 (by decide) ?_
          refine z_last hx hb hK hP hD hS 11 10 rfl rfl h dX1_look_111 (fun j_8 H locs h hP hD hS => ?_)
          have hP : va_P (dC, dI) vwCl (wX1 ad cA nW nH th fn wd dk mn cs nx gs pr ln wy ct bf (vp_updL sg j_8 r_7) my) H := hP
          have hD : va_D A (wX1 ad cA nW nH th fn wd dk mn cs nx gs pr ln wy ct bf (vp_updL sg j_8 r_7) my) := hD
          refine lv_iinc (v := (x4 + 1)) (lv' := [(4, .int (x4 + 1)), (0, .ref (ad 0)), (1, .int a1), (2, .int a2), (3, .int x3)]) hx hb dX1_look_112 hl (k := 4) rfl rfl (by decide) rfl (fun ls hl => ?_)
          refine lv_goto (tgt := 62) hx hb dX1_look_115 (by decide) ?_
          exact hr62 _ _ _ _ _ _ _ hP hD hS ls (lv_sub hl [1, 2, 3, 4, 0] rfl) h
set_option maxHeartbeats 4000000 in
set_option maxRecDepth 100000 in
theorem tX1_look_52 {p : Program} {l : Launch} {e : Env} {s : State} {m : MethodId} {args : Array Value} {below : List Frame} {meth : Method} {c : Code} {dC : Nat → ClassId} {dI : Nat → Nat → Nat} {ad : Nat → Nat} {cA : Nat → ClassId} {nW : Nat} {nH : Nat} {th : Int32} {fn : Int32} {dk : Nat → Int32} {mn : Nat → Int32} {cs : Nat → Int64} {nx : Nat → Int32} {gs : Nat → Int32} {pr : Nat → Int64} {ln : Nat → Int32} {wy : Nat → Int32} {ct : Nat → Int64} {bf : Nat → Int64} {a1 : Int32} {a2 : Int32} {Post : (Int32) → (Nat → Int64) → (Nat → Int32) → Prop} (hC : zC p s m args meth c cX1_look wsX1_look none 5 RX1) (hK : va_K (dC, dI) vwCl (tX1 cA) s) {A : Nat → Prop} (hA : ∀ q, s.heap.size ≤ q → A q) {Qc : Array Value → State → Outcome → State → Prop} (hQ : ∀ (wd : Int32) (sg : Nat → Int64) (my : Nat → Int32) (H : Heap) (locs : List Loc), va_P (dC, dI) vwCl (wX1 ad cA nW nH th fn wd dk mn cs nx gs pr ln wy ct bf sg my) H → va_D A (wX1 ad cA nW nH th fn wd dk mn cs nx gs pr ln wy ct bf sg my) → va_S A s.heap H locs → Post wd sg my → ∀ t : State, t.heap = H → s.WarmedH t.vm → Qc args s (.returned none) t) : ∀ (n : Nat), ∀ (x3 : Int32) (wd : Int32) (sg : Nat → Int64) (my : Nat → Int32) (H : Heap) (locs : List Loc), va_P (dC, dI) vwCl (wX1 ad cA nW nH th fn wd dk mn cs nx gs pr ln wy ct bf sg my) H → va_D A (wX1 ad cA nW nH th fn wd dk mn cs nx gs pr ln wy ct bf sg my) → va_S A s.heap H locs → ∀ (ls : Array Slot), lv_has ls 5 [(0, .ref (ad 0)), (1, .int a1), (2, .int a2), (3, .int x3)] → lX1_look_52 nW nH dk a1 a2 Post n x3 wd sg my → W p l e ({ frames := 5, cells := 0, slots := 0, locals := 109 } : Room) s m args below meth c H locs 0 0 (MQ below Qc args s 0 0 A) (F0 m 52 ls []) := by
  have hC0 := hC
  obtain ⟨hx, hb, hr, hml, hown, hts, hlocks⟩ := hC
  intro n
  induction n with
  | zero =>
    intro x3 wd sg my H locs hP hD hS ls hl h
    exact h.elim
  | succ n hr52 =>
    intro x3 wd sg my H locs hP hD hS ls hl h
    have h : bX1_look_52 nW nH dk a1 a2 Post (lX1_look_52 nW nH dk a1 a2 Post n) x3 wd sg my := h
    unfold bX1_look_52 at h
    refine lv_iload_n hx hb dX1_look_52 rfl (lv_at hl 3 rfl) ?_
    refine lv_iload_n hx hb dX1_look_53 rfl (lv_at hl 2 rfl) ?_
    refine lv_icmp_ge (tgt := 124) hx hb dX1_look_54 (by decide) (fun c => ?_) (fun c => ?_)
    · have h := h.1 c
      exact W.vret hx hb hr (hQ _ _ _ _ _ hP hD hS h) hS.2.2 dX1_look_124
    · have h := h.2 c
      refine lv_iload_n hx hb dX1_look_57 rfl (lv_at hl 3 rfl) ?_
      refine lv_iconst (v := 1) hx hb dX1_look_58 (by decide) ?_
      refine lv_iadd hx hb dX1_look_59 ?_
      refine lv_topi (fun x4_2 ex4_2 => ?_)
      have h := h x4_2 ex4_2
      refine lv_istore (lv' := [(4, .int x4_2), (0, .ref (ad 0)), (1, .int a1), (2, .int a2), (3, .int x3)]) hx hb dX1_look_60 hl (by decide) rfl (fun ls hl => ?_)
      obtain ⟨n_9, h⟩ := h
      exact tX1_look_62 hC0 hK hA hQ hr52 n_9 _ _ _ _ _ _ _ hP hD hS ls (lv_sub hl [1, 2, 3, 4, 0] rfl) h
set_option maxHeartbeats 4000000 in
set_option maxRecDepth 100000 in
theorem tX1_look_10 {p : Program} {l : Launch} {e : Env} {s : State} {m : MethodId} {args : Array Value} {below : List Frame} {meth : Method} {c : Code} {dC : Nat → ClassId} {dI : Nat → Nat → Nat} {ad : Nat → Nat} {cA : Nat → ClassId} {nW : Nat} {nH : Nat} {th : Int32} {fn : Int32} {dk : Nat → Int32} {mn : Nat → Int32} {cs : Nat → Int64} {nx : Nat → Int32} {gs : Nat → Int32} {pr : Nat → Int64} {ln : Nat → Int32} {wy : Nat → Int32} {ct : Nat → Int64} {bf : Nat → Int64} {a1 : Int32} {a2 : Int32} {Post : (Int32) → (Nat → Int64) → (Nat → Int32) → Prop} (hC : zC p s m args meth c cX1_look wsX1_look none 5 RX1) (hK : va_K (dC, dI) vwCl (tX1 cA) s) {A : Nat → Prop} (hA : ∀ q, s.heap.size ≤ q → A q) {Qc : Array Value → State → Outcome → State → Prop} (hQ : ∀ (wd : Int32) (sg : Nat → Int64) (my : Nat → Int32) (H : Heap) (locs : List Loc), va_P (dC, dI) vwCl (wX1 ad cA nW nH th fn wd dk mn cs nx gs pr ln wy ct bf sg my) H → va_D A (wX1 ad cA nW nH th fn wd dk mn cs nx gs pr ln wy ct bf sg my) → va_S A s.heap H locs → Post wd sg my → ∀ t : State, t.heap = H → s.WarmedH t.vm → Qc args s (.returned none) t) : ∀ (n : Nat), ∀ (x3 : Int32) (wd : Int32) (sg : Nat → Int64) (my : Nat → Int32) (H : Heap) (locs : List Loc), va_P (dC, dI) vwCl (wX1 ad cA nW nH th fn wd dk mn cs nx gs pr ln wy ct bf sg my) H → va_D A (wX1 ad cA nW nH th fn wd dk mn cs nx gs pr ln wy ct bf sg my) → va_S A s.heap H locs → ∀ (ls : Array Slot), lv_has ls 5 [(0, .ref (ad 0)), (1, .int a1), (2, .int a2), (3, .int x3)] → lX1_look_10 nW nH dk a1 a2 Post n x3 wd sg my → W p l e ({ frames := 5, cells := 0, slots := 0, locals := 109 } : Room) s m args below meth c H locs 0 0 (MQ below Qc args s 0 0 A) (F0 m 10 ls []) := by
  have hC0 := hC
  obtain ⟨hx, hb, hr, hml, hown, hts, hlocks⟩ := hC
  intro n
  induction n with
  | zero =>
    intro x3 wd sg my H locs hP hD hS ls hl h
    exact h.elim
  | succ n hr10 =>
    intro x3 wd sg my H locs hP hD hS ls hl h
    have h : bX1_look_10 nW nH dk a1 a2 Post (lX1_look_10 nW nH dk a1 a2 Post n) x3 wd sg my := h
    unfold bX1_look_10 at h
    refine lv_iload_n hx hb dX1_look_10 rfl (lv_at hl 3 rfl) ?_
    refine lv_iload_n hx hb dX1_look_11 rfl (lv_at hl 2 rfl) ?_
    refine lv_icmp_gt (tgt := 50) hx hb dX1_look_12 (by decide) (fun c => ?_) (fun c => ?_)
    · have h := h.1 c
      refine lv_iload_n hx hb dX1_look_50 rfl (lv_at hl 1 rfl) ?_
      refine lv_istore_n (lv' := [(3, .int a1), (0, .ref (ad 0)), (1, .int a1), (2, .int a2)]) hx hb dX1_look_51 rfl hl (by decide) rfl (fun ls hl => ?_)
      obtain ⟨n_10, h⟩ := h
      exact tX1_look_52 hC0 hK hA hQ n_10 _ _ _ _ _ _ hP hD hS ls (lv_sub hl [1, 2, 3, 0] rfl) h
    · have h := h.2 c
      refine lv_aload_n hx hb dX1_look_15 rfl (lv_at hl 0 rfl) ?_
      refine va_get (D := (dC, dI)) (ci := 2) (v := .ref (ad 12)) (C := RX1) (T := TX1) (N := 17) hx hb hts in_X1_look hown hK hP 0 rfl rfl 15 (by decide) (hts (.fieldLink RX1 45 "SignCutterModel" "may" "[Z") (by decide +kernel)) (fun _ h9 => h9) rfl dX1_look_16 ?_
      refine lv_iload_n hx hb dX1_look_19 rfl (lv_at hl 3 rfl) ?_
      refine lv_iload_n hx hb dX1_look_20 rfl (lv_at hl 3 rfl) ?_
      refine lv_iload_n hx hb dX1_look_21 rfl (lv_at hl 1 rfl) ?_
      refine lv_icmp_eq (tgt := 38) hx hb dX1_look_22 (by decide) (fun c => ?_) (fun c => ?_)
      · have h := h.1 c
        refine lv_iconst (v := 1) hx hb dX1_look_38 (by decide) ?_
        refine lv_goto (tgt := 43) hx hb dX1_look_39 (by decide) ?_
        refine z_zast hx hb hK hP hD hS 12 11 rfl rfl h dX1_look_43 (fun j_11 H locs h hP hD hS => ?_)
        have hP : va_P (dC, dI) vwCl (wX1 ad cA nW nH th fn wd dk mn cs nx gs pr ln wy ct bf sg (upd my j_11 (vp_nar .boolean 1))) H := hP
        have hD : va_D A (wX1 ad cA nW nH th fn wd dk mn cs nx gs pr ln wy ct bf sg (upd my j_11 (vp_nar .boolean 1))) := hD
        refine lv_iinc (v := (x3 + 1)) (lv' := [(3, .int (x3 + 1)), (0, .ref (ad 0)), (1, .int a1), (2, .int a2)]) hx hb dX1_look_44 hl (k := 3) rfl rfl (by decide) rfl (fun ls hl => ?_)
        refine lv_goto (tgt := 10) hx hb dX1_look_47 (by decide) ?_
        exact hr10 _ _ _ _ _ _ hP hD hS ls (lv_sub hl [1, 2, 3, 0] rfl) h
      · have h := h.2 c
        refine lv_iload_n hx hb dX1_look_25 rfl (lv_at hl 3 rfl) ?_
        refine lv_iload_n hx hb dX1_look_26 rfl (lv_at hl 2 rfl) ?_
        refine lv_icmp_eq (tgt := 38) hx hb dX1_look_27 (by decide) (fun c => ?_) (fun c => ?_)
        · have h := h.1 c
          refine lv_iconst (v := 1) hx hb dX1_look_38 (by decide) ?_
          refine lv_goto (tgt := 43) hx hb dX1_look_39 (by decide) ?_
          refine z_zast hx hb hK hP hD hS 12 11 rfl rfl h dX1_look_43 (fun j_12 H locs h hP hD hS => ?_)
          have hP : va_P (dC, dI) vwCl (wX1 ad cA nW nH th fn wd dk mn cs nx gs pr ln wy ct bf sg (upd my j_12 (vp_nar .boolean 1))) H := hP
          have hD : va_D A (wX1 ad cA nW nH th fn wd dk mn cs nx gs pr ln wy ct bf sg (upd my j_12 (vp_nar .boolean 1))) := hD
          refine lv_iinc (v := (x3 + 1)) (lv' := [(3, .int (x3 + 1)), (0, .ref (ad 0)), (1, .int a1), (2, .int a2)]) hx hb dX1_look_44 hl (k := 3) rfl rfl (by decide) rfl (fun ls hl => ?_)
          refine lv_goto (tgt := 10) hx hb dX1_look_47 (by decide) ?_
          exact hr10 _ _ _ _ _ _ hP hD hS ls (lv_sub hl [1, 2, 3, 0] rfl) h
        · have h := h.2 c
          refine lv_aload_n hx hb dX1_look_30 rfl (lv_at hl 0 rfl) ?_
          refine lv_iload_n hx hb dX1_look_31 rfl (lv_at hl 3 rfl) ?_
          refine z_cVi (ci := 2) (As := [.int x3]) (rest := [.int x3, .ref (ad 12)]) ⟨hx, hb, hml, hown, hts⟩ (mX1_mayCut l h) (cwV 1 hts gX1_look_X1_mayCut rfl rfl rfl (by decide +kernel) ⟨Nat.le_of_ble_eq_true rfl, Nat.le_of_ble_eq_true rfl⟩) hK hP 0 rfl rfl rfl rfl hl.1 rfl (Nat.le_of_ble_eq_true rfl) dX1_look_32 ⟨Nat.le_of_ble_eq_true rfl, Nat.le_of_ble_eq_true rfl⟩ (fun r_13 h => ?_)
          refine lv_if_eq (tgt := 42) hx hb dX1_look_35 (by decide) (fun c => ?_) (fun c => ?_)
          · have h := h.1 c
            refine lv_iconst (v := 0) hx hb dX1_look_42 (by decide) ?_
            refine z_zast hx hb hK hP hD hS 12 11 rfl rfl h dX1_look_43 (fun j_14 H locs h hP hD hS => ?_)
            have hP : va_P (dC, dI) vwCl (wX1 ad cA nW nH th fn wd dk mn cs nx gs pr ln wy ct bf sg (upd my j_14 (vp_nar .boolean 0))) H := hP
            have hD : va_D A (wX1 ad cA nW nH th fn wd dk mn cs nx gs pr ln wy ct bf sg (upd my j_14 (vp_nar .boolean 0))) := hD
            refine lv_iinc (v := (x3 + 1)) (lv' := [(3, .int (x3 + 1)), (0, .ref (ad 0)), (1, .int a1), (2, .int a2)]) hx hb dX1_look_44 hl (k := 3) rfl rfl (by decide) rfl (fun ls hl => ?_)
            refine lv_goto (tgt := 10) hx hb dX1_look_47 (by decide) ?_
            exact hr10 _ _ _ _ _ _ hP hD hS ls (lv_sub hl [1, 2, 3, 0] rfl) h
          · have h := h.2 c
            refine lv_iconst (v := 1) hx hb dX1_look_38 (by decide) ?_
            refine lv_goto (tgt := 43) hx hb dX1_look_39 (by decide) ?_
            refine z_zast hx hb hK hP hD hS 12 11 rfl rfl h dX1_look_43 (fun j_15 H locs h hP hD hS => ?_)
            have hP : va_P (dC, dI) vwCl (wX1 ad cA nW nH th fn wd dk mn cs nx gs pr ln wy ct bf sg (upd my j_15 (vp_nar .boolean 1))) H := hP
            have hD : va_D A (wX1 ad cA nW nH th fn wd dk mn cs nx gs pr ln wy ct bf sg (upd my j_15 (vp_nar .boolean 1))) := hD
            refine lv_iinc (v := (x3 + 1)) (lv' := [(3, .int (x3 + 1)), (0, .ref (ad 0)), (1, .int a1), (2, .int a2)]) hx hb dX1_look_44 hl (k := 3) rfl rfl (by decide) rfl (fun ls hl => ?_)
            refine lv_goto (tgt := 10) hx hb dX1_look_47 (by decide) ?_
            exact hr10 _ _ _ _ _ _ hP hD hS ls (lv_sub hl [1, 2, 3, 0] rfl) h
set_option maxHeartbeats 4000000 in
set_option maxRecDepth 100000 in
theorem mX1_look (l : Launch) {dC : Nat → ClassId} {dI : Nat → Nat → Nat} {ad : Nat → Nat} {cA : Nat → ClassId} {nW : Nat} {nH : Nat} {th : Int32} {fn : Int32} {wd : Int32} {dk : Nat → Int32} {mn : Nat → Int32} {cs : Nat → Int64} {nx : Nat → Int32} {gs : Nat → Int32} {pr : Nat → Int64} {ln : Nat → Int32} {wy : Nat → Int32} {ct : Nat → Int64} {bf : Nat → Int64} {sg : Nat → Int64} {my : Nat → Int32} {sz : Nat} {a1 : Int32} {a2 : Int32} {Post : (Int32) → (Nat → Int64) → (Nat → Int32) → Prop} (h : wX1_look nW nH dk wd sg my a1 a2 Post) : Met l yX1_look wsX1_look ({ frames := 5, cells := 0, slots := 0, locals := 109 } : Room) (zPw (dC, dI) vwCl (tX1 cA) (wX1 ad cA nW nH th fn wd dk mn cs nx gs pr ln wy ct bf sg my) sz [.ref (ad 0), .int a1, .int a2]) (va_Qv (S := (Int32) × (Nat → Int64) × (Nat → Int32)) (fun (u : (Int32) × (Nat → Int64) × (Nat → Int32)) => Post u.1 u.2.1 u.2.2) (zB (dC, dI) vwCl (tX1 cA) (wX1 ad cA nW nH th fn wd dk mn cs nx gs pr ln wy ct bf sg my) sz (fun u : (Int32) × (Nat → Int64) × (Nat → Int32) => wX1 ad cA nW nH th fn u.1 dk mn cs nx gs pr ln wy ct bf u.2.1 u.2.2)) (va_A (wX1 ad cA nW nH th fn wd dk mn cs nx gs pr ln wy ct bf sg my) sz)) 0 0 (va_A (wX1 ad cA nW nH th fn wd dk mn cs nx gs pr ln wy ct bf sg my) sz) := by
  refine Met.ofW (cc := cX1_look) (maxL := 5) (ret := none) (by decide) rfl ?_
  intro p e s m args below meth c s₁ B hml hv
  obtain ⟨rfl, hsz, hP, hK, hD0⟩ := hv
  have hC : zC p s m [.ref (ad 0), .int a1, .int a2].toArray meth c cX1_look wsX1_look none 5 RX1 := ⟨B.exec, B.bytes, B.returns, hml, findClass_of_methodNamed B.named, atoms_spec (ws := wsX1_look) B.pre, B.notSynchronized⟩
  have hC0 := hC
  obtain ⟨hx, hb, hr, hml, hown, hts, hlocks⟩ := hC
  subst hsz
  have hD := hD0.self (sz := s.heap.size)
  have hA : ∀ q : Nat, s.heap.size ≤ q → va_A (wX1 ad cA nW nH th fn wd dk mn cs nx gs pr ln wy ct bf sg my) s.heap.size q := fun q h => Or.inr h
  have hS : va_S (va_A (wX1 ad cA nW nH th fn wd dk mn cs nx gs pr ln wy ct bf sg my) s.heap.size) s.heap s.heap [] := va_S.rf
  generalize hQe : (va_Qv (S := (Int32) × (Nat → Int64) × (Nat → Int32)) (fun (u : (Int32) × (Nat → Int64) × (Nat → Int32)) => Post u.1 u.2.1 u.2.2) (zB (dC, dI) vwCl (tX1 cA) (wX1 ad cA nW nH th fn wd dk mn cs nx gs pr ln wy ct bf sg my) s.heap.size (fun u : (Int32) × (Nat → Int64) × (Nat → Int32) => wX1 ad cA nW nH th fn u.1 dk mn cs nx gs pr ln wy ct bf u.2.1 u.2.2)) (va_A (wX1 ad cA nW nH th fn wd dk mn cs nx gs pr ln wy ct bf sg my) s.heap.size)) = Qc
  generalize hAe : va_A (wX1 ad cA nW nH th fn wd dk mn cs nx gs pr ln wy ct bf sg my) s.heap.size = A at hD hA hS hQe ⊢
  have hQ : ∀ (wd : Int32) (sg : Nat → Int64) (my : Nat → Int32) (H : Heap) (locs : List Loc), va_P (dC, dI) vwCl (wX1 ad cA nW nH th fn wd dk mn cs nx gs pr ln wy ct bf sg my) H → va_D A (wX1 ad cA nW nH th fn wd dk mn cs nx gs pr ln wy ct bf sg my) → va_S A s.heap H locs → Post wd sg my → ∀ t : State, t.heap = H → s.WarmedH t.vm → Qc [.ref (ad 0), .int a1, .int a2].toArray s (.returned none) t := by
    intro wd sg my H locs hP hD hS h t ht hW
    rw [← hQe]
    exact ⟨⟨(wd, sg, my), rfl, h, by rw [ht]; exact hP, va_K.moved hW.alike hK, hAe ▸ hD⟩, hS.F ht⟩
  clear hQe hAe
  have hl := lv_entry ([.ref (ad 0), .int a1, .int a2]) (n := 5) (Nat.le_of_ble_eq_true rfl)
  rw [lg_entry_eq]
  generalize (lg_sl ([.ref (ad 0), .int a1, .int a2]) ++ List.replicate (5 - (lg_sl ([.ref (ad 0), .int a1, .int a2])).length) Slot.unset).toArray = ls at hl ⊢
  have hl : lv_has ls 5 [(0, .ref (ad 0)), (1, .int a1), (2, .int a2)] := hl
  show W p l e ({ frames := 5, cells := 0, slots := 0, locals := 109 } : Room) s m _ below meth c s.heap [] 0 0 (MQ below Qc _ s 0 0 A) (F0 m 0 ls [])
  unfold wX1_look at h
  refine lv_aload_n hx hb dX1_look_0 rfl (lv_at hl 0 rfl) ?_
  refine lv_aload_n hx hb dX1_look_1 rfl (lv_at hl 0 rfl) ?_
  refine z_cVi (ci := 2) (As := []) (rest := [.ref (ad 0)]) ⟨hx, hb, hml, hown, hts⟩ (mX1_due l h) (cwV 0 hts gX1_look_X1_due rfl rfl rfl (by decide +kernel) ⟨Nat.le_of_ble_eq_true rfl, Nat.le_of_ble_eq_true rfl⟩) hK hP 0 rfl rfl rfl rfl hl.1 rfl (Nat.le_of_ble_eq_true rfl) dX1_look_2 ⟨Nat.le_of_ble_eq_true rfl, Nat.le_of_ble_eq_true rfl⟩ (fun r_1 h => ?_)
  refine va_put (D := (dC, dI)) (ci := 2) (v := .int r_1) (ty := .int) (C := RX1) (T := TX1) (N := 17) hx hb hts in_X1_look tyX1 tyX1_ok nmX1 hown hK hP hD hS 0 rfl rfl 16 (by decide) (hts (.fieldLink RX1 85 "SignCutterModel" "wide" "I") (by decide +kernel)) (fun _ h9 => h9) rfl (by decide +kernel) rfl rfl (Nat.le_of_ble_eq_true rfl) dX1_look_5 (fun H locs hP hD hS => ?_)
  have hP : va_P (dC, dI) vwCl (wX1 ad cA nW nH th fn r_1 dk mn cs nx gs pr ln wy ct bf sg my) H := hP
  have hD : va_D A (wX1 ad cA nW nH th fn r_1 dk mn cs nx gs pr ln wy ct bf sg my) := hD
  refine lv_iload_n hx hb dX1_look_8 rfl (lv_at hl 1 rfl) ?_
  refine lv_istore_n (lv' := [(3, .int a1), (0, .ref (ad 0)), (1, .int a1), (2, .int a2)]) hx hb dX1_look_9 rfl hl (by decide) rfl (fun ls hl => ?_)
  obtain ⟨n_16, h⟩ := h
  exact tX1_look_10 hC0 hK hA hQ n_16 _ _ _ _ _ _ hP hD hS ls (lv_sub hl [1, 2, 3, 0] rfl) h
theorem in_X1_fill : ∀ w ∈ wsX10, w ∈ wsX1_fill := by decide +kernel
set_option maxHeartbeats 4000000 in
set_option maxRecDepth 100000 in
theorem tX1_fill_117 {p : Program} {l : Launch} {e : Env} {s : State} {m : MethodId} {args : Array Value} {below : List Frame} {meth : Method} {c : Code} {dC : Nat → ClassId} {dI : Nat → Nat → Nat} {ad : Nat → Nat} {cA : Nat → ClassId} {nW : Nat} {nH : Nat} {th : Int32} {fn : Int32} {dk : Nat → Int32} {pr : Nat → Int64} {ln : Nat → Int32} {wy : Nat → Int32} {ct : Nat → Int64} {bf : Nat → Int64} {a1 : Int32} {a2 : Int32} {Post : (Int32) → (Nat → Int32) → (Nat → Int64) → (Nat → Int32) → (Nat → Int32) → (Nat → Int64) → (Nat → Int32) → Prop} (hC : zC p s m args meth c cX1_fill wsX1_fill none 8 RX1) (hK : va_K (dC, dI) vwCl (tX1 cA) s) {A : Nat → Prop} (hA : ∀ q, s.heap.size ≤ q → A q) {Qc : Array Value → State → Outcome → State → Prop} (hQ : ∀ (wd : Int32) (mn : Nat → Int32) (cs : Nat → Int64) (nx : Nat → Int32) (gs : Nat → Int32) (sg : Nat → Int64) (my : Nat → Int32) (H : Heap) (locs : List Loc), va_P (dC, dI) vwCl (wX1 ad cA nW nH th fn wd dk mn cs nx gs pr ln wy ct bf sg my) H → va_D A (wX1 ad cA nW nH th fn wd dk mn cs nx gs pr ln wy ct bf sg my) → va_S A s.heap H locs → Post wd mn cs nx gs sg my → ∀ t : State, t.heap = H → s.WarmedH t.vm → Qc args s (.returned none) t) {r8 : Int32 → (Int32) → (Nat → Int32) → (Nat → Int64) → (Nat → Int32) → (Nat → Int32) → (Nat → Int64) → (Nat → Int32) → Prop} (hr8 : ∀ (x3 : Int32) (wd : Int32) (mn : Nat → Int32) (cs : Nat → Int64) (nx : Nat → Int32) (gs : Nat → Int32) (sg : Nat → Int64) (my : Nat → Int32) (H : Heap) (locs : List Loc), va_P (dC, dI) vwCl (wX1 ad cA nW nH th fn wd dk mn cs nx gs pr ln wy ct bf sg my) H → va_D A (wX1 ad cA nW nH th fn wd dk mn cs nx gs pr ln wy ct bf sg my) → va_S A s.heap H locs → ∀ (ls : Array Slot), lv_has ls 8 [(0, .ref (ad 0)), (1, .int a1), (2, .int a2), (3, .int x3)] → r8 x3 wd mn cs nx gs sg my → W p l e ({ frames := 6, cells := 0, slots := 0, locals := 133 } : Room) s m args below meth c H locs 0 0 (MQ below Qc args s 0 0 A) (F0 m 8 ls [])) {r50 : Int32 → Int32 → (Int32) → (Nat → Int32) → (Nat → Int64) → (Nat → Int32) → (Nat → Int32) → (Nat → Int64) → (Nat → Int32) → Prop} (hr50 : ∀ (x3 : Int32) (x4 : Int32) (wd : Int32) (mn : Nat → Int32) (cs : Nat → Int64) (nx : Nat → Int32) (gs : Nat → Int32) (sg : Nat → Int64) (my : Nat → Int32) (H : Heap) (locs : List Loc), va_P (dC, dI) vwCl (wX1 ad cA nW nH th fn wd dk mn cs nx gs pr ln wy ct bf sg my) H → va_D A (wX1 ad cA nW nH th fn wd dk mn cs nx gs pr ln wy ct bf sg my) → va_S A s.heap H locs → ∀ (ls : Array Slot), lv_has ls 8 [(0, .ref (ad 0)), (1, .int a1), (2, .int a2), (3, .int x3), (4, .int x4)] → r50 x3 x4 wd mn cs nx gs sg my → W p l e ({ frames := 6, cells := 0, slots := 0, locals := 133 } : Room) s m args below meth c H locs 0 0 (MQ below Qc args s 0 0 A) (F0 m 50 ls [])) {r73 : Int32 → Int32 → Int64 → Int32 → (Int32) → (Nat → Int32) → (Nat → Int64) → (Nat → Int32) → (Nat → Int32) → (Nat → Int64) → (Nat → Int32) → Prop} (hr73 : ∀ (x3 : Int32) (x4 : Int32) (x5 : Int64) (x7 : Int32) (wd : Int32) (mn : Nat → Int32) (cs : Nat → Int64) (nx : Nat → Int32) (gs : Nat → Int32) (sg : Nat → Int64) (my : Nat → Int32) (H : Heap) (locs : List Loc), va_P (dC, dI) vwCl (wX1 ad cA nW nH th fn wd dk mn cs nx gs pr ln wy ct bf sg my) H → va_D A (wX1 ad cA nW nH th fn wd dk mn cs nx gs pr ln wy ct bf sg my) → va_S A s.heap H locs → ∀ (ls : Array Slot), lv_has ls 8 [(0, .ref (ad 0)), (1, .int a1), (2, .int a2), (3, .int x3), (4, .int x4), (5, .long x5), (7, .int x7)] → r73 x3 x4 x5 x7 wd mn cs nx gs sg my → W p l e ({ frames := 6, cells := 0, slots := 0, locals := 133 } : Room) s m args below meth c H locs 0 0 (MQ below Qc args s 0 0 A) (F0 m 73 ls [])) : ∀ (x3 : Int32) (x4 : Int32) (x5 : Int64) (x7 : Int32) (s0 : Int64) (s1 : Int64) (s2 : Int32) (wd : Int32) (mn : Nat → Int32) (cs : Nat → Int64) (nx : Nat → Int32) (gs : Nat → Int32) (sg : Nat → Int64) (my : Nat → Int32) (H : Heap) (locs : List Loc), va_P (dC, dI) vwCl (wX1 ad cA nW nH th fn wd dk mn cs nx gs pr ln wy ct bf sg my) H → va_D A (wX1 ad cA nW nH th fn wd dk mn cs nx gs pr ln wy ct bf sg my) → va_S A s.heap H locs → ∀ (ls : Array Slot), lv_has ls 8 [(0, .ref (ad 0)), (1, .int a1), (2, .int a2), (3, .int x3), (4, .int x4), (5, .long x5), (7, .int x7)] → jX1_fill_117 nW nH dk a1 a2 Post r8 r50 r73 x3 x4 x5 x7 s0 s1 s2 wd mn cs nx gs sg my → W p l e ({ frames := 6, cells := 0, slots := 0, locals := 133 } : Room) s m args below meth c H locs 0 0 (MQ below Qc args s 0 0 A) (F0 m 117 ls [.long s0, .long s1, .int s2, .ref (ad 0)]) := by
  have hC0 := hC
  obtain ⟨hx, hb, hr, hml, hown, hts, hlocks⟩ := hC
  intro x3 x4 x5 x7 s0 s1 s2 wd mn cs nx gs sg my H locs hP hD hS ls hl h
  unfold jX1_fill_117 at h
  refine lv_ladd hx hb dX1_fill_117 ?_
  refine lv_aload_n hx hb dX1_fill_118 rfl (lv_at hl 0 rfl) ?_
  refine va_get (D := (dC, dI)) (ci := 2) (v := .ref (ad 3)) (C := RX1) (T := TX1) (N := 17) hx hb hts in_X1_fill hown hK hP 0 rfl rfl 5 (by decide) (hts (.fieldLink RX1 17 "SignCutterModel" "costs" "[J") (by decide +kernel)) (fun _ h9 => h9) rfl dX1_fill_119 ?_
  refine lv_bipush (v := 40) hx hb dX1_fill_122 (by decide) ?_
  refine lv_iload hx hb dX1_fill_124 (lv_at hl 4 rfl) ?_
  refine lv_imul hx hb dX1_fill_126 ?_
  refine lv_iload hx hb dX1_fill_127 (lv_at hl 6 rfl) ?_
  refine lv_iadd hx hb dX1_fill_129 ?_
  refine z_lald hx hb hK hP 3 2 rfl rfl h dX1_fill_130 (fun j_12 h => ?_)
  refine lv_ladd hx hb dX1_fill_131 ?_
  refine lv_iload hx hb dX1_fill_132 (lv_at hl 4 rfl) ?_
  refine lv_iload hx hb dX1_fill_134 (lv_at hl 6 rfl) ?_
  refine z_cVv (ci := 2) (As := [.int s2, .long ((s1 + s0) + (cs j_12)), .int x4, .int x7]) (rest := []) ⟨hx, hb, hml, hown, hts⟩ (mX1_keep l h) (cwV 4 hts gX1_fill_X1_keep rfl rfl rfl (by decide +kernel) ⟨Nat.le_of_ble_eq_true rfl, Nat.le_of_ble_eq_true rfl⟩) hK hP hD hS hA 0 rfl rfl rfl rfl hl.1 rfl (Nat.le_of_ble_eq_true rfl) dX1_fill_136 ⟨Nat.le_of_ble_eq_true rfl, Nat.le_of_ble_eq_true rfl⟩ (fun u_13 H locs h hP hD hS => ?_)
  revert h hP hD
  generalize u_13.1 = mn_15
  generalize u_13.2.1 = cs_16
  generalize u_13.2.2.1 = nx_17
  generalize u_13.2.2.2 = gs_18
  intro h hP hD
  have hP : va_P (dC, dI) vwCl (wX1 ad cA nW nH th fn wd dk mn_15 cs_16 nx_17 gs_18 pr ln wy ct bf sg my) H := hP
  have hD : va_D A (wX1 ad cA nW nH th fn wd dk mn_15 cs_16 nx_17 gs_18 pr ln wy ct bf sg my) := hD
  refine lv_iinc (v := (x7 + 1)) (lv' := [(7, .int (x7 + 1)), (0, .ref (ad 0)), (1, .int a1), (2, .int a2), (3, .int x3), (4, .int x4), (5, .long x5)]) hx hb dX1_fill_139 hl (k := 6) rfl rfl (by decide) rfl (fun ls hl => ?_)
  refine lv_goto (tgt := 73) hx hb dX1_fill_142 (by decide) ?_
  exact hr73 _ _ _ _ _ _ _ _ _ _ _ _ _ hP hD hS ls (lv_sub hl [1, 2, 3, 4, 5, 6, 0] rfl) h
set_option maxHeartbeats 4000000 in
set_option maxRecDepth 100000 in
theorem tX1_fill_73 {p : Program} {l : Launch} {e : Env} {s : State} {m : MethodId} {args : Array Value} {below : List Frame} {meth : Method} {c : Code} {dC : Nat → ClassId} {dI : Nat → Nat → Nat} {ad : Nat → Nat} {cA : Nat → ClassId} {nW : Nat} {nH : Nat} {th : Int32} {fn : Int32} {dk : Nat → Int32} {pr : Nat → Int64} {ln : Nat → Int32} {wy : Nat → Int32} {ct : Nat → Int64} {bf : Nat → Int64} {a1 : Int32} {a2 : Int32} {Post : (Int32) → (Nat → Int32) → (Nat → Int64) → (Nat → Int32) → (Nat → Int32) → (Nat → Int64) → (Nat → Int32) → Prop} (hC : zC p s m args meth c cX1_fill wsX1_fill none 8 RX1) (hK : va_K (dC, dI) vwCl (tX1 cA) s) {A : Nat → Prop} (hA : ∀ q, s.heap.size ≤ q → A q) {Qc : Array Value → State → Outcome → State → Prop} (hQ : ∀ (wd : Int32) (mn : Nat → Int32) (cs : Nat → Int64) (nx : Nat → Int32) (gs : Nat → Int32) (sg : Nat → Int64) (my : Nat → Int32) (H : Heap) (locs : List Loc), va_P (dC, dI) vwCl (wX1 ad cA nW nH th fn wd dk mn cs nx gs pr ln wy ct bf sg my) H → va_D A (wX1 ad cA nW nH th fn wd dk mn cs nx gs pr ln wy ct bf sg my) → va_S A s.heap H locs → Post wd mn cs nx gs sg my → ∀ t : State, t.heap = H → s.WarmedH t.vm → Qc args s (.returned none) t) {r8 : Int32 → (Int32) → (Nat → Int32) → (Nat → Int64) → (Nat → Int32) → (Nat → Int32) → (Nat → Int64) → (Nat → Int32) → Prop} (hr8 : ∀ (x3 : Int32) (wd : Int32) (mn : Nat → Int32) (cs : Nat → Int64) (nx : Nat → Int32) (gs : Nat → Int32) (sg : Nat → Int64) (my : Nat → Int32) (H : Heap) (locs : List Loc), va_P (dC, dI) vwCl (wX1 ad cA nW nH th fn wd dk mn cs nx gs pr ln wy ct bf sg my) H → va_D A (wX1 ad cA nW nH th fn wd dk mn cs nx gs pr ln wy ct bf sg my) → va_S A s.heap H locs → ∀ (ls : Array Slot), lv_has ls 8 [(0, .ref (ad 0)), (1, .int a1), (2, .int a2), (3, .int x3)] → r8 x3 wd mn cs nx gs sg my → W p l e ({ frames := 6, cells := 0, slots := 0, locals := 133 } : Room) s m args below meth c H locs 0 0 (MQ below Qc args s 0 0 A) (F0 m 8 ls [])) {r50 : Int32 → Int32 → (Int32) → (Nat → Int32) → (Nat → Int64) → (Nat → Int32) → (Nat → Int32) → (Nat → Int64) → (Nat → Int32) → Prop} (hr50 : ∀ (x3 : Int32) (x4 : Int32) (wd : Int32) (mn : Nat → Int32) (cs : Nat → Int64) (nx : Nat → Int32) (gs : Nat → Int32) (sg : Nat → Int64) (my : Nat → Int32) (H : Heap) (locs : List Loc), va_P (dC, dI) vwCl (wX1 ad cA nW nH th fn wd dk mn cs nx gs pr ln wy ct bf sg my) H → va_D A (wX1 ad cA nW nH th fn wd dk mn cs nx gs pr ln wy ct bf sg my) → va_S A s.heap H locs → ∀ (ls : Array Slot), lv_has ls 8 [(0, .ref (ad 0)), (1, .int a1), (2, .int a2), (3, .int x3), (4, .int x4)] → r50 x3 x4 wd mn cs nx gs sg my → W p l e ({ frames := 6, cells := 0, slots := 0, locals := 133 } : Room) s m args below meth c H locs 0 0 (MQ below Qc args s 0 0 A) (F0 m 50 ls [])) : ∀ (n : Nat), ∀ (x3 : Int32) (x4 : Int32) (x5 : Int64) (x7 : Int32) (wd : Int32) (mn : Nat → Int32) (cs : Nat → Int64) (nx : Nat → Int32) (gs : Nat → Int32) (sg : Nat → Int64) (my : Nat → Int32) (H : Heap) (locs : List Loc), va_P (dC, dI) vwCl (wX1 ad cA nW nH th fn wd dk mn cs nx gs pr ln wy ct bf sg my) H → va_D A (wX1 ad cA nW nH th fn wd dk mn cs nx gs pr ln wy ct bf sg my) → va_S A s.heap H locs → ∀ (ls : Array Slot), lv_has ls 8 [(0, .ref (ad 0)), (1, .int a1), (2, .int a2), (3, .int x3), (4, .int x4), (5, .long x5), (7, .int x7)] → lX1_fill_73 nW nH dk a1 a2 Post r8 r50 n x3 x4 x5 x7 wd mn cs nx gs sg my → W p l e ({ frames := 6, cells := 0, slots := 0, locals := 133 } : Room) s m args below meth c H locs 0 0 (MQ below Qc args s 0 0 A) (F0 m 73 ls []) := by
  have hC0 := hC
  obtain ⟨hx, hb, hr, hml, hown, hts, hlocks⟩ := hC
  intro n
  induction n with
  | zero =>
    intro x3 x4 x5 x7 wd mn cs nx gs sg my H locs hP hD hS ls hl h
    exact h.elim
  | succ n hr73 =>
    intro x3 x4 x5 x7 wd mn cs nx gs sg my H locs hP hD hS ls hl h
    have h : bX1_fill_73 nW nH dk a1 a2 Post r8 r50 (lX1_fill_73 nW nH dk a1 a2 Post r8 r50 n) x3 x4 x5 x7 wd mn cs nx gs sg my := h
    unfold bX1_fill_73 at h
    refine lv_iload hx hb dX1_fill_73 (lv_at hl 6 rfl) ?_
    refine lv_aload_n hx hb dX1_fill_75 rfl (lv_at hl 0 rfl) ?_
    refine va_get (D := (dC, dI)) (ci := 2) (v := .ref (ad 2)) (C := RX1) (T := TX1) (N := 17) hx hb hts in_X1_fill hown hK hP 0 rfl rfl 4 (by decide) (hts (.fieldLink RX1 13 "SignCutterModel" "many" "[I") (by decide +kernel)) (fun _ h9 => h9) rfl dX1_fill_76 ?_
    refine lv_iload hx hb dX1_fill_79 (lv_at hl 4 rfl) ?_
    refine z_iald hx hb hK hP 2 1 rfl rfl h dX1_fill_81 (fun j_11 h => ?_)
    refine lv_icmp_ge (tgt := 145) hx hb dX1_fill_82 (by decide) (fun c => ?_) (fun c => ?_)
    · have h := h.1 c
      refine lv_iinc (v := (x4 + 1)) (lv' := [(4, .int (x4 + 1)), (0, .ref (ad 0)), (1, .int a1), (2, .int a2), (3, .int x3), (5, .long x5), (7, .int x7)]) hx hb dX1_fill_145 hl (k := 4) rfl rfl (by decide) rfl (fun ls hl => ?_)
      refine lv_goto (tgt := 50) hx hb dX1_fill_148 (by decide) ?_
      exact hr50 _ _ _ _ _ _ _ _ _ _ _ hP hD hS ls (lv_sub hl [1, 2, 3, 4, 0] rfl) h
    · have h := h.2 c
      refine lv_lload hx hb dX1_fill_85 (lv_at hl 5 rfl) ?_
      refine lv_lconst (v := 0) hx hb dX1_fill_87 (by decide) ?_
      refine W.lcmp hx hb dX1_fill_88 ?_
      refine lv_if_lt (tgt := 145) hx hb dX1_fill_89 (by decide) (fun c => ?_) (fun c => ?_)
      · have h := h.1 c
        refine lv_iinc (v := (x4 + 1)) (lv' := [(4, .int (x4 + 1)), (0, .ref (ad 0)), (1, .int a1), (2, .int a2), (3, .int x3), (5, .long x5), (7, .int x7)]) hx hb dX1_fill_145 hl (k := 4) rfl rfl (by decide) rfl (fun ls hl => ?_)
        refine lv_goto (tgt := 50) hx hb dX1_fill_148 (by decide) ?_
        exact hr50 _ _ _ _ _ _ _ _ _ _ _ hP hD hS ls (lv_sub hl [1, 2, 3, 4, 0] rfl) h
      · have h := h.2 c
        refine lv_aload_n hx hb dX1_fill_92 rfl (lv_at hl 0 rfl) ?_
        refine lv_iload_n hx hb dX1_fill_93 rfl (lv_at hl 3 rfl) ?_
        refine lv_lload hx hb dX1_fill_94 (lv_at hl 5 rfl) ?_
        refine lv_iload hx hb dX1_fill_96 (lv_at hl 4 rfl) ?_
        refine lv_iload_n hx hb dX1_fill_98 rfl (lv_at hl 2 rfl) ?_
        refine lv_icmp_ge (tgt := 116) hx hb dX1_fill_99 (by decide) (fun c => ?_) (fun c => ?_)
        · have h := h.1 c
          refine lv_lconst (v := 0) hx hb dX1_fill_116 (by decide) ?_
          exact tX1_fill_117 hC0 hK hA hQ hr8 hr50 hr73 _ _ _ _ _ _ _ _ _ _ _ _ _ _ _ _ hP hD hS ls (lv_sub hl [0, 1, 2, 3, 4, 5, 6] rfl) h
        · have h := h.2 c
          refine lv_ldc2 hx hb hown (hts (.constantLong RX1 114 (10)) (by decide +kernel)) dX1_fill_102 ?_
          refine lv_aload_n hx hb dX1_fill_105 rfl (lv_at hl 0 rfl) ?_
          refine lv_iload hx hb dX1_fill_106 (lv_at hl 4 rfl) ?_
          refine z_cVi (ci := 2) (As := [.int x4]) (rest := [.long 10, .long x5, .int x3, .ref (ad 0)]) ⟨hx, hb, hml, hown, hts⟩ (mX1_touch l h) (cwV 1 hts gX1_fill_X1_touch rfl rfl rfl (by decide +kernel) ⟨Nat.le_of_ble_eq_true rfl, Nat.le_of_ble_eq_true rfl⟩) hK hP 0 rfl rfl rfl rfl hl.1 rfl (Nat.le_of_ble_eq_true rfl) dX1_fill_108 ⟨Nat.le_of_ble_eq_true rfl, Nat.le_of_ble_eq_true rfl⟩ (fun r_19 h => ?_)
          refine lv_i2l (v := (Int32.toInt64 r_19)) hx hb dX1_fill_111 rfl ?_
          refine lv_lmul hx hb dX1_fill_112 ?_
          refine lv_goto (tgt := 117) hx hb dX1_fill_113 (by decide) ?_
          exact tX1_fill_117 hC0 hK hA hQ hr8 hr50 hr73 _ _ _ _ _ _ _ _ _ _ _ _ _ _ _ _ hP hD hS ls (lv_sub hl [0, 1, 2, 3, 4, 5, 6] rfl) h
set_option maxHeartbeats 4000000 in
set_option maxRecDepth 100000 in
theorem tX1_fill_50 {p : Program} {l : Launch} {e : Env} {s : State} {m : MethodId} {args : Array Value} {below : List Frame} {meth : Method} {c : Code} {dC : Nat → ClassId} {dI : Nat → Nat → Nat} {ad : Nat → Nat} {cA : Nat → ClassId} {nW : Nat} {nH : Nat} {th : Int32} {fn : Int32} {dk : Nat → Int32} {pr : Nat → Int64} {ln : Nat → Int32} {wy : Nat → Int32} {ct : Nat → Int64} {bf : Nat → Int64} {a1 : Int32} {a2 : Int32} {Post : (Int32) → (Nat → Int32) → (Nat → Int64) → (Nat → Int32) → (Nat → Int32) → (Nat → Int64) → (Nat → Int32) → Prop} (hC : zC p s m args meth c cX1_fill wsX1_fill none 8 RX1) (hK : va_K (dC, dI) vwCl (tX1 cA) s) {A : Nat → Prop} (hA : ∀ q, s.heap.size ≤ q → A q) {Qc : Array Value → State → Outcome → State → Prop} (hQ : ∀ (wd : Int32) (mn : Nat → Int32) (cs : Nat → Int64) (nx : Nat → Int32) (gs : Nat → Int32) (sg : Nat → Int64) (my : Nat → Int32) (H : Heap) (locs : List Loc), va_P (dC, dI) vwCl (wX1 ad cA nW nH th fn wd dk mn cs nx gs pr ln wy ct bf sg my) H → va_D A (wX1 ad cA nW nH th fn wd dk mn cs nx gs pr ln wy ct bf sg my) → va_S A s.heap H locs → Post wd mn cs nx gs sg my → ∀ t : State, t.heap = H → s.WarmedH t.vm → Qc args s (.returned none) t) {r8 : Int32 → (Int32) → (Nat → Int32) → (Nat → Int64) → (Nat → Int32) → (Nat → Int32) → (Nat → Int64) → (Nat → Int32) → Prop} (hr8 : ∀ (x3 : Int32) (wd : Int32) (mn : Nat → Int32) (cs : Nat → Int64) (nx : Nat → Int32) (gs : Nat → Int32) (sg : Nat → Int64) (my : Nat → Int32) (H : Heap) (locs : List Loc), va_P (dC, dI) vwCl (wX1 ad cA nW nH th fn wd dk mn cs nx gs pr ln wy ct bf sg my) H → va_D A (wX1 ad cA nW nH th fn wd dk mn cs nx gs pr ln wy ct bf sg my) → va_S A s.heap H locs → ∀ (ls : Array Slot), lv_has ls 8 [(0, .ref (ad 0)), (1, .int a1), (2, .int a2), (3, .int x3)] → r8 x3 wd mn cs nx gs sg my → W p l e ({ frames := 6, cells := 0, slots := 0, locals := 133 } : Room) s m args below meth c H locs 0 0 (MQ below Qc args s 0 0 A) (F0 m 8 ls [])) : ∀ (n : Nat), ∀ (x3 : Int32) (x4 : Int32) (wd : Int32) (mn : Nat → Int32) (cs : Nat → Int64) (nx : Nat → Int32) (gs : Nat → Int32) (sg : Nat → Int64) (my : Nat → Int32) (H : Heap) (locs : List Loc), va_P (dC, dI) vwCl (wX1 ad cA nW nH th fn wd dk mn cs nx gs pr ln wy ct bf sg my) H → va_D A (wX1 ad cA nW nH th fn wd dk mn cs nx gs pr ln wy ct bf sg my) → va_S A s.heap H locs → ∀ (ls : Array Slot), lv_has ls 8 [(0, .ref (ad 0)), (1, .int a1), (2, .int a2), (3, .int x3), (4, .int x4)] → lX1_fill_50 nW nH dk a1 a2 Post r8 n x3 x4 wd mn cs nx gs sg my → W p l e ({ frames := 6, cells := 0, slots := 0, locals := 133 } : Room) s m args below meth c H locs 0 0 (MQ below Qc args s 0 0 A) (F0 m 50 ls []) := by
  have hC0 := hC
  obtain ⟨hx, hb, hr, hml, hown, hts, hlocks⟩ := hC
  intro n
  induction n with
  | zero =>
    intro x3 x4 wd mn cs nx gs sg my H locs hP hD hS ls hl h
    exact h.elim
  | succ n hr50 =>
    intro x3 x4 wd mn cs nx gs sg my H locs hP hD hS ls hl h
    have h : bX1_fill_50 nW nH dk a1 a2 Post r8 (lX1_fill_50 nW nH dk a1 a2 Post r8 n) x3 x4 wd mn cs nx gs sg my := h
    unfold bX1_fill_50 at h
    refine lv_iload hx hb dX1_fill_50 (lv_at hl 4 rfl) ?_
    refine lv_iload_n hx hb dX1_fill_52 rfl (lv_at hl 2 rfl) ?_
    refine lv_icmp_gt (tgt := 151) hx hb dX1_fill_53 (by decide) (fun c => ?_) (fun c => ?_)
    · have h := h.1 c
      refine lv_iinc (v := (x3 + (-1))) (lv' := [(3, .int (x3 + (-1))), (0, .ref (ad 0)), (1, .int a1), (2, .int a2), (4, .int x4)]) hx hb dX1_fill_151 hl (k := 3) rfl rfl (by decide) rfl (fun ls hl => ?_)
      refine lv_goto (tgt := 8) hx hb dX1_fill_154 (by decide) ?_
      exact hr8 _ _ _ _ _ _ _ _ _ _ hP hD hS ls (lv_sub hl [1, 2, 3, 0] rfl) h
    · have h := h.2 c
      refine lv_aload_n hx hb dX1_fill_56 rfl (lv_at hl 0 rfl) ?_
      refine va_get (D := (dC, dI)) (ci := 2) (v := .ref (ad 11)) (C := RX1) (T := TX1) (N := 17) hx hb hts in_X1_fill hown hK hP 0 rfl rfl 14 (by decide) (hts (.fieldLink RX1 42 "SignCutterModel" "signs" "[J") (by decide +kernel)) (fun _ h9 => h9) rfl dX1_fill_57 ?_
      refine lv_bipush (v := 61) hx hb dX1_fill_60 (by decide) ?_
      refine lv_iload_n hx hb dX1_fill_62 rfl (lv_at hl 3 rfl) ?_
      refine lv_imul hx hb dX1_fill_63 ?_
      refine lv_iload hx hb dX1_fill_64 (lv_at hl 4 rfl) ?_
      refine lv_iadd hx hb dX1_fill_66 ?_
      refine z_lald hx hb hK hP 11 10 rfl rfl h dX1_fill_67 (fun j_9 h => ?_)
      refine lv_topl (fun x5_10 ex5_10 => ?_)
      have h := h x5_10 ex5_10
      refine lv_lstore (lv' := [(5, .long x5_10), (0, .ref (ad 0)), (1, .int a1), (2, .int a2), (3, .int x3), (4, .int x4)]) hx hb dX1_fill_68 hl (by decide) rfl (fun ls hl => ?_)
      refine lv_iconst (v := 0) hx hb dX1_fill_70 (by decide) ?_
      refine lv_istore (lv' := [(7, .int 0), (5, .long x5_10), (0, .ref (ad 0)), (1, .int a1), (2, .int a2), (3, .int x3), (4, .int x4)]) hx hb dX1_fill_71 hl (by decide) rfl (fun ls hl => ?_)
      obtain ⟨n_20, h⟩ := h
      exact tX1_fill_73 hC0 hK hA hQ hr8 hr50 n_20 _ _ _ _ _ _ _ _ _ _ _ _ _ hP hD hS ls (lv_sub hl [2, 3, 4, 5, 6, 1, 0] rfl) h
set_option maxHeartbeats 4000000 in
set_option maxRecDepth 100000 in
theorem tX1_fill_8 {p : Program} {l : Launch} {e : Env} {s : State} {m : MethodId} {args : Array Value} {below : List Frame} {meth : Method} {c : Code} {dC : Nat → ClassId} {dI : Nat → Nat → Nat} {ad : Nat → Nat} {cA : Nat → ClassId} {nW : Nat} {nH : Nat} {th : Int32} {fn : Int32} {dk : Nat → Int32} {pr : Nat → Int64} {ln : Nat → Int32} {wy : Nat → Int32} {ct : Nat → Int64} {bf : Nat → Int64} {a1 : Int32} {a2 : Int32} {Post : (Int32) → (Nat → Int32) → (Nat → Int64) → (Nat → Int32) → (Nat → Int32) → (Nat → Int64) → (Nat → Int32) → Prop} (hC : zC p s m args meth c cX1_fill wsX1_fill none 8 RX1) (hK : va_K (dC, dI) vwCl (tX1 cA) s) {A : Nat → Prop} (hA : ∀ q, s.heap.size ≤ q → A q) {Qc : Array Value → State → Outcome → State → Prop} (hQ : ∀ (wd : Int32) (mn : Nat → Int32) (cs : Nat → Int64) (nx : Nat → Int32) (gs : Nat → Int32) (sg : Nat → Int64) (my : Nat → Int32) (H : Heap) (locs : List Loc), va_P (dC, dI) vwCl (wX1 ad cA nW nH th fn wd dk mn cs nx gs pr ln wy ct bf sg my) H → va_D A (wX1 ad cA nW nH th fn wd dk mn cs nx gs pr ln wy ct bf sg my) → va_S A s.heap H locs → Post wd mn cs nx gs sg my → ∀ t : State, t.heap = H → s.WarmedH t.vm → Qc args s (.returned none) t) : ∀ (n : Nat), ∀ (x3 : Int32) (wd : Int32) (mn : Nat → Int32) (cs : Nat → Int64) (nx : Nat → Int32) (gs : Nat → Int32) (sg : Nat → Int64) (my : Nat → Int32) (H : Heap) (locs : List Loc), va_P (dC, dI) vwCl (wX1 ad cA nW nH th fn wd dk mn cs nx gs pr ln wy ct bf sg my) H → va_D A (wX1 ad cA nW nH th fn wd dk mn cs nx gs pr ln wy ct bf sg my) → va_S A s.heap H locs → ∀ (ls : Array Slot), lv_has ls 8 [(0, .ref (ad 0)), (1, .int a1), (2, .int a2), (3, .int x3)] → lX1_fill_8 nW nH dk a1 a2 Post n x3 wd mn cs nx gs sg my → W p l e ({ frames := 6, cells := 0, slots := 0, locals := 133 } : Room) s m args below meth c H locs 0 0 (MQ below Qc args s 0 0 A) (F0 m 8 ls []) := by
  have hC0 := hC
  obtain ⟨hx, hb, hr, hml, hown, hts, hlocks⟩ := hC
  intro n
  induction n with
  | zero =>
    intro x3 wd mn cs nx gs sg my H locs hP hD hS ls hl h
    exact h.elim
  | succ n hr8 =>
    intro x3 wd mn cs nx gs sg my H locs hP hD hS ls hl h
    have h : bX1_fill_8 nW nH dk a1 a2 Post (lX1_fill_8 nW nH dk a1 a2 Post n) x3 wd mn cs nx gs sg my := h
    unfold bX1_fill_8 at h
    refine lv_iload_n hx hb dX1_fill_8 rfl (lv_at hl 3 rfl) ?_
    refine lv_iload_n hx hb dX1_fill_9 rfl (lv_at hl 1 rfl) ?_
    refine lv_icmp_lt (tgt := 157) hx hb dX1_fill_10 (by decide) (fun c => ?_) (fun c => ?_)
    · have h := h.1 c
      exact W.vret hx hb hr (hQ _ _ _ _ _ _ _ _ _ hP hD hS h) hS.2.2 dX1_fill_157
    · have h := h.2 c
      refine lv_aload_n hx hb dX1_fill_13 rfl (lv_at hl 0 rfl) ?_
      refine va_get (D := (dC, dI)) (ci := 2) (v := .ref (ad 2)) (C := RX1) (T := TX1) (N := 17) hx hb hts in_X1_fill hown hK hP 0 rfl rfl 4 (by decide) (hts (.fieldLink RX1 13 "SignCutterModel" "many" "[I") (by decide +kernel)) (fun _ h9 => h9) rfl dX1_fill_14 ?_
      refine lv_iload_n hx hb dX1_fill_17 rfl (lv_at hl 3 rfl) ?_
      refine lv_iconst (v := 0) hx hb dX1_fill_18 (by decide) ?_
      refine z_iast hx hb hK hP hD hS 2 1 rfl rfl h dX1_fill_19 (fun j_6 H locs h hP hD hS => ?_)
      have hP : va_P (dC, dI) vwCl (wX1 ad cA nW nH th fn wd dk (upd mn j_6 0) cs nx gs pr ln wy ct bf sg my) H := hP
      have hD : va_D A (wX1 ad cA nW nH th fn wd dk (upd mn j_6 0) cs nx gs pr ln wy ct bf sg my) := hD
      refine lv_iload_n hx hb dX1_fill_20 rfl (lv_at hl 3 rfl) ?_
      refine lv_iload_n hx hb dX1_fill_21 rfl (lv_at hl 2 rfl) ?_
      refine lv_icmp_ne (tgt := 36) hx hb dX1_fill_22 (by decide) (fun c => ?_) (fun c => ?_)
      · have h := h.2 c
        refine lv_aload_n hx hb dX1_fill_36 rfl (lv_at hl 0 rfl) ?_
        refine va_get (D := (dC, dI)) (ci := 2) (v := .ref (ad 12)) (C := RX1) (T := TX1) (N := 17) hx hb hts in_X1_fill hown hK hP 0 rfl rfl 15 (by decide) (hts (.fieldLink RX1 45 "SignCutterModel" "may" "[Z") (by decide +kernel)) (fun _ h9 => h9) rfl dX1_fill_37 ?_
        refine lv_iload_n hx hb dX1_fill_40 rfl (lv_at hl 3 rfl) ?_
        refine z_zald hx hb hK hP 12 11 rfl rfl h dX1_fill_41 (fun j_7 h => ?_)
        refine lv_if_eq (tgt := 151) hx hb dX1_fill_42 (by decide) (fun c => ?_) (fun c => ?_)
        · have h := h.1 c
          refine lv_iinc (v := (x3 + (-1))) (lv' := [(3, .int (x3 + (-1))), (0, .ref (ad 0)), (1, .int a1), (2, .int a2)]) hx hb dX1_fill_151 hl (k := 3) rfl rfl (by decide) rfl (fun ls hl => ?_)
          refine lv_goto (tgt := 8) hx hb dX1_fill_154 (by decide) ?_
          exact hr8 _ _ _ _ _ _ _ _ _ _ hP hD hS ls (lv_sub hl [1, 2, 3, 0] rfl) h
        · have h := h.2 c
          refine lv_iload_n hx hb dX1_fill_45 rfl (lv_at hl 3 rfl) ?_
          refine lv_iconst (v := 1) hx hb dX1_fill_46 (by decide) ?_
          refine lv_iadd hx hb dX1_fill_47 ?_
          refine lv_topi (fun x4_8 ex4_8 => ?_)
          have h := h x4_8 ex4_8
          refine lv_istore (lv' := [(4, .int x4_8), (0, .ref (ad 0)), (1, .int a1), (2, .int a2), (3, .int x3)]) hx hb dX1_fill_48 hl (by decide) rfl (fun ls hl => ?_)
          obtain ⟨n_21, h⟩ := h
          exact tX1_fill_50 hC0 hK hA hQ hr8 n_21 _ _ _ _ _ _ _ _ _ _ _ hP hD hS ls (lv_sub hl [1, 2, 3, 4, 0] rfl) h
      · have h := h.1 c
        refine lv_aload_n hx hb dX1_fill_25 rfl (lv_at hl 0 rfl) ?_
        refine lv_iload_n hx hb dX1_fill_26 rfl (lv_at hl 3 rfl) ?_
        refine lv_lconst (v := 0) hx hb dX1_fill_27 (by decide) ?_
        refine lv_iconst (v := (-1)) hx hb dX1_fill_28 (by decide) ?_
        refine lv_iconst (v := (-1)) hx hb dX1_fill_29 (by decide) ?_
        refine z_cVv (ci := 2) (As := [.int x3, .long 0, .int (-1), .int (-1)]) (rest := []) ⟨hx, hb, hml, hown, hts⟩ (mX1_keep l h) (cwV 4 hts gX1_fill_X1_keep rfl rfl rfl (by decide +kernel) ⟨Nat.le_of_ble_eq_true rfl, Nat.le_of_ble_eq_true rfl⟩) hK hP hD hS hA 0 rfl rfl rfl rfl hl.1 rfl (Nat.le_of_ble_eq_true rfl) dX1_fill_30 ⟨Nat.le_of_ble_eq_true rfl, Nat.le_of_ble_eq_true rfl⟩ (fun u_22 H locs h hP hD hS => ?_)
        revert h hP hD
        generalize u_22.1 = mn_24
        generalize u_22.2.1 = cs_25
        generalize u_22.2.2.1 = nx_26
        generalize u_22.2.2.2 = gs_27
        intro h hP hD
        have hP : va_P (dC, dI) vwCl (wX1 ad cA nW nH th fn wd dk mn_24 cs_25 nx_26 gs_27 pr ln wy ct bf sg my) H := hP
        have hD : va_D A (wX1 ad cA nW nH th fn wd dk mn_24 cs_25 nx_26 gs_27 pr ln wy ct bf sg my) := hD
        refine lv_goto (tgt := 151) hx hb dX1_fill_33 (by decide) ?_
        refine lv_iinc (v := (x3 + (-1))) (lv' := [(3, .int (x3 + (-1))), (0, .ref (ad 0)), (1, .int a1), (2, .int a2)]) hx hb dX1_fill_151 hl (k := 3) rfl rfl (by decide) rfl (fun ls hl => ?_)
        refine lv_goto (tgt := 8) hx hb dX1_fill_154 (by decide) ?_
        exact hr8 _ _ _ _ _ _ _ _ _ _ hP hD hS ls (lv_sub hl [1, 2, 3, 0] rfl) h
set_option maxHeartbeats 4000000 in
set_option maxRecDepth 100000 in
theorem mX1_fill (l : Launch) {dC : Nat → ClassId} {dI : Nat → Nat → Nat} {ad : Nat → Nat} {cA : Nat → ClassId} {nW : Nat} {nH : Nat} {th : Int32} {fn : Int32} {wd : Int32} {dk : Nat → Int32} {mn : Nat → Int32} {cs : Nat → Int64} {nx : Nat → Int32} {gs : Nat → Int32} {pr : Nat → Int64} {ln : Nat → Int32} {wy : Nat → Int32} {ct : Nat → Int64} {bf : Nat → Int64} {sg : Nat → Int64} {my : Nat → Int32} {sz : Nat} {a1 : Int32} {a2 : Int32} {Post : (Int32) → (Nat → Int32) → (Nat → Int64) → (Nat → Int32) → (Nat → Int32) → (Nat → Int64) → (Nat → Int32) → Prop} (h : wX1_fill nW nH dk wd mn cs nx gs sg my a1 a2 Post) : Met l yX1_fill wsX1_fill ({ frames := 6, cells := 0, slots := 0, locals := 133 } : Room) (zPw (dC, dI) vwCl (tX1 cA) (wX1 ad cA nW nH th fn wd dk mn cs nx gs pr ln wy ct bf sg my) sz [.ref (ad 0), .int a1, .int a2]) (va_Qv (S := (Int32) × (Nat → Int32) × (Nat → Int64) × (Nat → Int32) × (Nat → Int32) × (Nat → Int64) × (Nat → Int32)) (fun (u : (Int32) × (Nat → Int32) × (Nat → Int64) × (Nat → Int32) × (Nat → Int32) × (Nat → Int64) × (Nat → Int32)) => Post u.1 u.2.1 u.2.2.1 u.2.2.2.1 u.2.2.2.2.1 u.2.2.2.2.2.1 u.2.2.2.2.2.2) (zB (dC, dI) vwCl (tX1 cA) (wX1 ad cA nW nH th fn wd dk mn cs nx gs pr ln wy ct bf sg my) sz (fun u : (Int32) × (Nat → Int32) × (Nat → Int64) × (Nat → Int32) × (Nat → Int32) × (Nat → Int64) × (Nat → Int32) => wX1 ad cA nW nH th fn u.1 dk u.2.1 u.2.2.1 u.2.2.2.1 u.2.2.2.2.1 pr ln wy ct bf u.2.2.2.2.2.1 u.2.2.2.2.2.2)) (va_A (wX1 ad cA nW nH th fn wd dk mn cs nx gs pr ln wy ct bf sg my) sz)) 0 0 (va_A (wX1 ad cA nW nH th fn wd dk mn cs nx gs pr ln wy ct bf sg my) sz) := by
  refine Met.ofW (cc := cX1_fill) (maxL := 8) (ret := none) (by decide) rfl ?_
  intro p e s m args below meth c s₁ B hml hv
  obtain ⟨rfl, hsz, hP, hK, hD0⟩ := hv
  have hC : zC p s m [.ref (ad 0), .int a1, .int a2].toArray meth c cX1_fill wsX1_fill none 8 RX1 := ⟨B.exec, B.bytes, B.returns, hml, findClass_of_methodNamed B.named, atoms_spec (ws := wsX1_fill) B.pre, B.notSynchronized⟩
  have hC0 := hC
  obtain ⟨hx, hb, hr, hml, hown, hts, hlocks⟩ := hC
  subst hsz
  have hD := hD0.self (sz := s.heap.size)
  have hA : ∀ q : Nat, s.heap.size ≤ q → va_A (wX1 ad cA nW nH th fn wd dk mn cs nx gs pr ln wy ct bf sg my) s.heap.size q := fun q h => Or.inr h
  have hS : va_S (va_A (wX1 ad cA nW nH th fn wd dk mn cs nx gs pr ln wy ct bf sg my) s.heap.size) s.heap s.heap [] := va_S.rf
  generalize hQe : (va_Qv (S := (Int32) × (Nat → Int32) × (Nat → Int64) × (Nat → Int32) × (Nat → Int32) × (Nat → Int64) × (Nat → Int32)) (fun (u : (Int32) × (Nat → Int32) × (Nat → Int64) × (Nat → Int32) × (Nat → Int32) × (Nat → Int64) × (Nat → Int32)) => Post u.1 u.2.1 u.2.2.1 u.2.2.2.1 u.2.2.2.2.1 u.2.2.2.2.2.1 u.2.2.2.2.2.2) (zB (dC, dI) vwCl (tX1 cA) (wX1 ad cA nW nH th fn wd dk mn cs nx gs pr ln wy ct bf sg my) s.heap.size (fun u : (Int32) × (Nat → Int32) × (Nat → Int64) × (Nat → Int32) × (Nat → Int32) × (Nat → Int64) × (Nat → Int32) => wX1 ad cA nW nH th fn u.1 dk u.2.1 u.2.2.1 u.2.2.2.1 u.2.2.2.2.1 pr ln wy ct bf u.2.2.2.2.2.1 u.2.2.2.2.2.2)) (va_A (wX1 ad cA nW nH th fn wd dk mn cs nx gs pr ln wy ct bf sg my) s.heap.size)) = Qc
  generalize hAe : va_A (wX1 ad cA nW nH th fn wd dk mn cs nx gs pr ln wy ct bf sg my) s.heap.size = A at hD hA hS hQe ⊢
  have hQ : ∀ (wd : Int32) (mn : Nat → Int32) (cs : Nat → Int64) (nx : Nat → Int32) (gs : Nat → Int32) (sg : Nat → Int64) (my : Nat → Int32) (H : Heap) (locs : List Loc), va_P (dC, dI) vwCl (wX1 ad cA nW nH th fn wd dk mn cs nx gs pr ln wy ct bf sg my) H → va_D A (wX1 ad cA nW nH th fn wd dk mn cs nx gs pr ln wy ct bf sg my) → va_S A s.heap H locs → Post wd mn cs nx gs sg my → ∀ t : State, t.heap = H → s.WarmedH t.vm → Qc [.ref (ad 0), .int a1, .int a2].toArray s (.returned none) t := by
    intro wd mn cs nx gs sg my H locs hP hD hS h t ht hW
    rw [← hQe]
    exact ⟨⟨(wd, mn, cs, nx, gs, sg, my), rfl, h, by rw [ht]; exact hP, va_K.moved hW.alike hK, hAe ▸ hD⟩, hS.F ht⟩
  clear hQe hAe
  have hl := lv_entry ([.ref (ad 0), .int a1, .int a2]) (n := 8) (Nat.le_of_ble_eq_true rfl)
  rw [lg_entry_eq]
  generalize (lg_sl ([.ref (ad 0), .int a1, .int a2]) ++ List.replicate (8 - (lg_sl ([.ref (ad 0), .int a1, .int a2])).length) Slot.unset).toArray = ls at hl ⊢
  have hl : lv_has ls 8 [(0, .ref (ad 0)), (1, .int a1), (2, .int a2)] := hl
  show W p l e ({ frames := 6, cells := 0, slots := 0, locals := 133 } : Room) s m _ below meth c s.heap [] 0 0 (MQ below Qc _ s 0 0 A) (F0 m 0 ls [])
  unfold wX1_fill at h
  refine lv_aload_n hx hb dX1_fill_0 rfl (lv_at hl 0 rfl) ?_
  refine lv_iload_n hx hb dX1_fill_1 rfl (lv_at hl 1 rfl) ?_
  refine lv_iload_n hx hb dX1_fill_2 rfl (lv_at hl 2 rfl) ?_
  refine z_cVv (ci := 2) (As := [.int a1, .int a2]) (rest := []) ⟨hx, hb, hml, hown, hts⟩ (mX1_look l h) (cwV 2 hts gX1_fill_X1_look rfl rfl rfl (by decide +kernel) ⟨Nat.le_of_ble_eq_true rfl, Nat.le_of_ble_eq_true rfl⟩) hK hP hD hS hA 0 rfl rfl rfl rfl hl.1 rfl (Nat.le_of_ble_eq_true rfl) dX1_fill_3 ⟨Nat.le_of_ble_eq_true rfl, Nat.le_of_ble_eq_true rfl⟩ (fun u_1 H locs h hP hD hS => ?_)
  revert h hP hD
  generalize u_1.1 = wd_3
  generalize u_1.2.1 = sg_4
  generalize u_1.2.2 = my_5
  intro h hP hD
  have hP : va_P (dC, dI) vwCl (wX1 ad cA nW nH th fn wd_3 dk mn cs nx gs pr ln wy ct bf sg_4 my_5) H := hP
  have hD : va_D A (wX1 ad cA nW nH th fn wd_3 dk mn cs nx gs pr ln wy ct bf sg_4 my_5) := hD
  refine lv_iload_n hx hb dX1_fill_6 rfl (lv_at hl 2 rfl) ?_
  refine lv_istore_n (lv' := [(3, .int a2), (0, .ref (ad 0)), (1, .int a1), (2, .int a2)]) hx hb dX1_fill_7 rfl hl (by decide) rfl (fun ls hl => ?_)
  obtain ⟨n_28, h⟩ := h
  exact tX1_fill_8 hC0 hK hA hQ n_28 _ _ _ _ _ _ _ _ _ _ hP hD hS ls (lv_sub hl [1, 2, 3, 0] rfl) h
theorem in_X1_cut : ∀ w ∈ wsX10, w ∈ wsX1_cut := by decide +kernel
set_option maxHeartbeats 4000000 in
set_option maxRecDepth 100000 in
theorem tX1_cut_110 {p : Program} {l : Launch} {e : Env} {s : State} {m : MethodId} {args : Array Value} {below : List Frame} {meth : Method} {c : Code} {dC : Nat → ClassId} {dI : Nat → Nat → Nat} {ad : Nat → Nat} {cA : Nat → ClassId} {nW : Nat} {nH : Nat} {dk : Nat → Int32} {ct : Nat → Int64} {bf : Nat → Int64} {a1 : Int32} {Post : Int32 → (Int32) → (Int32) → (Int32) → (Nat → Int32) → (Nat → Int64) → (Nat → Int32) → (Nat → Int32) → (Nat → Int64) → (Nat → Int32) → (Nat → Int32) → (Nat → Int64) → (Nat → Int32) → Prop} (hC : zC p s m args meth c cX1_cut wsX1_cut (some .int) 7 RX1) (hK : va_K (dC, dI) vwCl (tX1 cA) s) {A : Nat → Prop} (hA : ∀ q, s.heap.size ≤ q → A q) {Qc : Array Value → State → Outcome → State → Prop} (hQ : ∀ (r : Int32) (th : Int32) (fn : Int32) (wd : Int32) (mn : Nat → Int32) (cs : Nat → Int64) (nx : Nat → Int32) (gs : Nat → Int32) (pr : Nat → Int64) (ln : Nat → Int32) (wy : Nat → Int32) (sg : Nat → Int64) (my : Nat → Int32) (H : Heap) (locs : List Loc), va_P (dC, dI) vwCl (wX1 ad cA nW nH th fn wd dk mn cs nx gs pr ln wy ct bf sg my) H → va_D A (wX1 ad cA nW nH th fn wd dk mn cs nx gs pr ln wy ct bf sg my) → va_S A s.heap H locs → Post r th fn wd mn cs nx gs pr ln wy sg my → ∀ t : State, t.heap = H → s.WarmedH t.vm → Qc args s (.returned (some (.int r))) t) {r72 : Int32 → Int32 → (Int32) → (Int32) → (Int32) → (Nat → Int32) → (Nat → Int64) → (Nat → Int32) → (Nat → Int32) → (Nat → Int64) → (Nat → Int32) → (Nat → Int32) → (Nat → Int64) → (Nat → Int32) → Prop} (hr72 : ∀ (x2 : Int32) (x3 : Int32) (th : Int32) (fn : Int32) (wd : Int32) (mn : Nat → Int32) (cs : Nat → Int64) (nx : Nat → Int32) (gs : Nat → Int32) (pr : Nat → Int64) (ln : Nat → Int32) (wy : Nat → Int32) (sg : Nat → Int64) (my : Nat → Int32) (H : Heap) (locs : List Loc), va_P (dC, dI) vwCl (wX1 ad cA nW nH th fn wd dk mn cs nx gs pr ln wy ct bf sg my) H → va_D A (wX1 ad cA nW nH th fn wd dk mn cs nx gs pr ln wy ct bf sg my) → va_S A s.heap H locs → ∀ (ls : Array Slot), lv_has ls 7 [(0, .ref (ad 0)), (1, .int a1), (2, .int x2), (3, .int x3)] → r72 x2 x3 th fn wd mn cs nx gs pr ln wy sg my → W p l e ({ frames := 7, cells := 0, slots := 0, locals := 160 } : Room) s m args below meth c H locs 0 0 (MQ below Qc args s 0 0 A) (F0 m 72 ls [])) : ∀ (n : Nat), ∀ (x2 : Int32) (x3 : Int32) (x4 : Int32) (x5 : Int32) (th : Int32) (fn : Int32) (wd : Int32) (mn : Nat → Int32) (cs : Nat → Int64) (nx : Nat → Int32) (gs : Nat → Int32) (pr : Nat → Int64) (ln : Nat → Int32) (wy : Nat → Int32) (sg : Nat → Int64) (my : Nat → Int32) (H : Heap) (locs : List Loc), va_P (dC, dI) vwCl (wX1 ad cA nW nH th fn wd dk mn cs nx gs pr ln wy ct bf sg my) H → va_D A (wX1 ad cA nW nH th fn wd dk mn cs nx gs pr ln wy ct bf sg my) → va_S A s.heap H locs → ∀ (ls : Array Slot), lv_has ls 7 [(0, .ref (ad 0)), (1, .int a1), (2, .int x2), (3, .int x3), (4, .int x4), (5, .int x5)] → lX1_cut_110 nW nH dk a1 Post r72 n x2 x3 x4 x5 th fn wd mn cs nx gs pr ln wy sg my → W p l e ({ frames := 7, cells := 0, slots := 0, locals := 160 } : Room) s m args below meth c H locs 0 0 (MQ below Qc args s 0 0 A) (F0 m 110 ls []) := by
  have hC0 := hC
  obtain ⟨hx, hb, hr, hml, hown, hts, hlocks⟩ := hC
  intro n
  induction n with
  | zero =>
    intro x2 x3 x4 x5 th fn wd mn cs nx gs pr ln wy sg my H locs hP hD hS ls hl h
    exact h.elim
  | succ n hr110 =>
    intro x2 x3 x4 x5 th fn wd mn cs nx gs pr ln wy sg my H locs hP hD hS ls hl h
    have h : bX1_cut_110 nW nH dk a1 Post r72 (lX1_cut_110 nW nH dk a1 Post r72 n) x2 x3 x4 x5 th fn wd mn cs nx gs pr ln wy sg my := h
    unfold bX1_cut_110 at h
    refine lv_iload hx hb dX1_cut_110 (lv_at hl 4 rfl) ?_
    refine lv_iconst (v := (-1)) hx hb dX1_cut_112 (by decide) ?_
    refine lv_icmp_eq (tgt := 181) hx hb dX1_cut_113 (by decide) (fun c => ?_) (fun c => ?_)
    · have h := h.1 c
      refine lv_iinc (v := (x3 + 1)) (lv' := [(3, .int (x3 + 1)), (0, .ref (ad 0)), (1, .int a1), (2, .int x2), (4, .int x4), (5, .int x5)]) hx hb dX1_cut_181 hl (k := 3) rfl rfl (by decide) rfl (fun ls hl => ?_)
      refine lv_goto (tgt := 72) hx hb dX1_cut_184 (by decide) ?_
      exact hr72 _ _ _ _ _ _ _ _ _ _ _ _ _ _ _ _ hP hD hS ls (lv_sub hl [1, 2, 3, 0] rfl) h
    · have h := h.2 c
      refine lv_aload_n hx hb dX1_cut_116 rfl (lv_at hl 0 rfl) ?_
      refine va_get (D := (dC, dI)) (ci := 2) (v := .ref (ad 8)) (C := RX1) (T := TX1) (N := 17) hx hb hts in_X1_cut hown hK hP 0 rfl rfl 11 (by decide) (hts (.fieldLink RX1 33 "SignCutterModel" "ways" "[I") (by decide +kernel)) (fun _ h9 => h9) rfl dX1_cut_117 ?_
      refine lv_bipush (v := 62) hx hb dX1_cut_120 (by decide) ?_
      refine lv_iload_n hx hb dX1_cut_122 rfl (lv_at hl 3 rfl) ?_
      refine lv_imul hx hb dX1_cut_123 ?_
      refine lv_aload_n hx hb dX1_cut_124 rfl (lv_at hl 0 rfl) ?_
      refine va_get (D := (dC, dI)) (ci := 2) (v := .ref (ad 7)) (C := RX1) (T := TX1) (N := 17) hx hb hts in_X1_cut hown hK hP 0 rfl rfl 10 (by decide) (hts (.fieldLink RX1 30 "SignCutterModel" "lengths" "[I") (by decide +kernel)) (fun _ h9 => h9) rfl dX1_cut_125 ?_
      refine lv_iload_n hx hb dX1_cut_128 rfl (lv_at hl 3 rfl) ?_
      refine z_iald hx hb hK hP 7 6 rfl rfl h dX1_cut_129 (fun j_17 h => ?_)
      refine lv_iadd hx hb dX1_cut_130 ?_
      refine lv_iload hx hb dX1_cut_131 (lv_at hl 4 rfl) ?_
      refine z_iast hx hb hK hP hD hS 8 7 rfl rfl h dX1_cut_133 (fun j_18 H locs h hP hD hS => ?_)
      have hP : va_P (dC, dI) vwCl (wX1 ad cA nW nH th fn wd dk mn cs nx gs pr ln (upd wy j_18 x4) ct bf sg my) H := hP
      have hD : va_D A (wX1 ad cA nW nH th fn wd dk mn cs nx gs pr ln (upd wy j_18 x4) ct bf sg my) := hD
      refine lv_aload_n hx hb dX1_cut_134 rfl (lv_at hl 0 rfl) ?_
      refine va_get (D := (dC, dI)) (ci := 2) (v := .ref (ad 7)) (C := RX1) (T := TX1) (N := 17) hx hb hts in_X1_cut hown hK hP 0 rfl rfl 10 (by decide) (hts (.fieldLink RX1 30 "SignCutterModel" "lengths" "[I") (by decide +kernel)) (fun _ h9 => h9) rfl dX1_cut_135 ?_
      refine lv_iload_n hx hb dX1_cut_138 rfl (lv_at hl 3 rfl) ?_
      refine lv_dup2_11 hx hb dX1_cut_139 rfl rfl ?_
      refine z_iald hx hb hK hP 7 6 rfl rfl h dX1_cut_140 (fun j_19 h => ?_)
      refine lv_iconst (v := 1) hx hb dX1_cut_141 (by decide) ?_
      refine lv_iadd hx hb dX1_cut_142 ?_
      refine z_iast hx hb hK hP hD hS 7 6 rfl rfl h dX1_cut_143 (fun j_20 H locs h hP hD hS => ?_)
      have hP : va_P (dC, dI) vwCl (wX1 ad cA nW nH th fn wd dk mn cs nx gs pr (upd ln j_20 ((ln j_19) + 1)) (upd wy j_18 x4) ct bf sg my) H := hP
      have hD : va_D A (wX1 ad cA nW nH th fn wd dk mn cs nx gs pr (upd ln j_20 ((ln j_19) + 1)) (upd wy j_18 x4) ct bf sg my) := hD
      refine lv_aload_n hx hb dX1_cut_144 rfl (lv_at hl 0 rfl) ?_
      refine va_get (D := (dC, dI)) (ci := 2) (v := .ref (ad 4)) (C := RX1) (T := TX1) (N := 17) hx hb hts in_X1_cut hown hK hP 0 rfl rfl 6 (by decide) (hts (.fieldLink RX1 21 "SignCutterModel" "nexts" "[I") (by decide +kernel)) (fun _ h9 => h9) rfl dX1_cut_145 ?_
      refine lv_bipush (v := 40) hx hb dX1_cut_148 (by decide) ?_
      refine lv_iload hx hb dX1_cut_150 (lv_at hl 4 rfl) ?_
      refine lv_imul hx hb dX1_cut_152 ?_
      refine lv_iload hx hb dX1_cut_153 (lv_at hl 5 rfl) ?_
      refine lv_iadd hx hb dX1_cut_155 ?_
      refine z_iald hx hb hK hP 4 3 rfl rfl h dX1_cut_156 (fun j_21 h => ?_)
      refine lv_topi (fun x6_22 ex6_22 => ?_)
      have h := h x6_22 ex6_22
      refine lv_istore (lv' := [(6, .int x6_22), (0, .ref (ad 0)), (1, .int a1), (2, .int x2), (3, .int x3), (4, .int x4), (5, .int x5)]) hx hb dX1_cut_157 hl (by decide) rfl (fun ls hl => ?_)
      refine lv_aload_n hx hb dX1_cut_159 rfl (lv_at hl 1 rfl) ?_
      refine va_get (D := (dC, dI)) (ci := 2) (v := .ref (ad 5)) (C := RX1) (T := TX1) (N := 17) hx hb hts in_X1_cut hown hK hP 0 rfl rfl 7 (by decide) (hts (.fieldLink RX1 24 "SignCutterModel" "goes" "[I") (by decide +kernel)) (fun _ h9 => h9) rfl dX1_cut_160 ?_
      refine lv_bipush (v := 40) hx hb dX1_cut_163 (by decide) ?_
      refine lv_iload hx hb dX1_cut_165 (lv_at hl 5 rfl) ?_
      refine lv_imul hx hb dX1_cut_167 ?_
      refine lv_iload hx hb dX1_cut_168 (lv_at hl 6 rfl) ?_
      refine lv_iadd hx hb dX1_cut_170 ?_
      refine z_iald hx hb hK hP 5 4 rfl rfl h dX1_cut_171 (fun j_23 h => ?_)
      refine lv_topi (fun x5_24 ex5_24 => ?_)
      have h := h x5_24 ex5_24
      refine lv_istore (lv' := [(5, .int x5_24), (6, .int x6_22), (0, .ref (ad 0)), (1, .int a1), (2, .int x2), (3, .int x3), (4, .int x4)]) hx hb dX1_cut_172 hl (by decide) rfl (fun ls hl => ?_)
      refine lv_iload hx hb dX1_cut_174 (lv_at hl 1 rfl) ?_
      refine lv_istore (lv' := [(4, .int x6_22), (5, .int x5_24), (6, .int x6_22), (0, .ref (ad 0)), (1, .int a1), (2, .int x2), (3, .int x3)]) hx hb dX1_cut_176 hl (by decide) rfl (fun ls hl => ?_)
      refine lv_goto (tgt := 110) hx hb dX1_cut_178 (by decide) ?_
      exact hr110 _ _ _ _ _ _ _ _ _ _ _ _ _ _ _ _ _ _ hP hD hS ls (lv_sub hl [3, 4, 5, 6, 0, 1] rfl) h
set_option maxHeartbeats 4000000 in
set_option maxRecDepth 100000 in
theorem tX1_cut_72 {p : Program} {l : Launch} {e : Env} {s : State} {m : MethodId} {args : Array Value} {below : List Frame} {meth : Method} {c : Code} {dC : Nat → ClassId} {dI : Nat → Nat → Nat} {ad : Nat → Nat} {cA : Nat → ClassId} {nW : Nat} {nH : Nat} {dk : Nat → Int32} {ct : Nat → Int64} {bf : Nat → Int64} {a1 : Int32} {Post : Int32 → (Int32) → (Int32) → (Int32) → (Nat → Int32) → (Nat → Int64) → (Nat → Int32) → (Nat → Int32) → (Nat → Int64) → (Nat → Int32) → (Nat → Int32) → (Nat → Int64) → (Nat → Int32) → Prop} (hC : zC p s m args meth c cX1_cut wsX1_cut (some .int) 7 RX1) (hK : va_K (dC, dI) vwCl (tX1 cA) s) {A : Nat → Prop} (hA : ∀ q, s.heap.size ≤ q → A q) {Qc : Array Value → State → Outcome → State → Prop} (hQ : ∀ (r : Int32) (th : Int32) (fn : Int32) (wd : Int32) (mn : Nat → Int32) (cs : Nat → Int64) (nx : Nat → Int32) (gs : Nat → Int32) (pr : Nat → Int64) (ln : Nat → Int32) (wy : Nat → Int32) (sg : Nat → Int64) (my : Nat → Int32) (H : Heap) (locs : List Loc), va_P (dC, dI) vwCl (wX1 ad cA nW nH th fn wd dk mn cs nx gs pr ln wy ct bf sg my) H → va_D A (wX1 ad cA nW nH th fn wd dk mn cs nx gs pr ln wy ct bf sg my) → va_S A s.heap H locs → Post r th fn wd mn cs nx gs pr ln wy sg my → ∀ t : State, t.heap = H → s.WarmedH t.vm → Qc args s (.returned (some (.int r))) t) : ∀ (n : Nat), ∀ (x2 : Int32) (x3 : Int32) (th : Int32) (fn : Int32) (wd : Int32) (mn : Nat → Int32) (cs : Nat → Int64) (nx : Nat → Int32) (gs : Nat → Int32) (pr : Nat → Int64) (ln : Nat → Int32) (wy : Nat → Int32) (sg : Nat → Int64) (my : Nat → Int32) (H : Heap) (locs : List Loc), va_P (dC, dI) vwCl (wX1 ad cA nW nH th fn wd dk mn cs nx gs pr ln wy ct bf sg my) H → va_D A (wX1 ad cA nW nH th fn wd dk mn cs nx gs pr ln wy ct bf sg my) → va_S A s.heap H locs → ∀ (ls : Array Slot), lv_has ls 7 [(0, .ref (ad 0)), (1, .int a1), (2, .int x2), (3, .int x3)] → lX1_cut_72 nW nH dk a1 Post n x2 x3 th fn wd mn cs nx gs pr ln wy sg my → W p l e ({ frames := 7, cells := 0, slots := 0, locals := 160 } : Room) s m args below meth c H locs 0 0 (MQ below Qc args s 0 0 A) (F0 m 72 ls []) := by
  have hC0 := hC
  obtain ⟨hx, hb, hr, hml, hown, hts, hlocks⟩ := hC
  intro n
  induction n with
  | zero =>
    intro x2 x3 th fn wd mn cs nx gs pr ln wy sg my H locs hP hD hS ls hl h
    exact h.elim
  | succ n hr72 =>
    intro x2 x3 th fn wd mn cs nx gs pr ln wy sg my H locs hP hD hS ls hl h
    have h : bX1_cut_72 nW nH dk a1 Post (lX1_cut_72 nW nH dk a1 Post n) x2 x3 th fn wd mn cs nx gs pr ln wy sg my := h
    unfold bX1_cut_72 at h
    refine lv_iload_n hx hb dX1_cut_72 rfl (lv_at hl 3 rfl) ?_
    refine lv_aload_n hx hb dX1_cut_73 rfl (lv_at hl 0 rfl) ?_
    refine va_get (D := (dC, dI)) (ci := 2) (v := .int fn) (C := RX1) (T := TX1) (N := 17) hx hb hts in_X1_cut hown hK hP 0 rfl rfl 8 (by decide) (hts (.fieldLink RX1 116 "SignCutterModel" "found" "I") (by decide +kernel)) (fun _ h9 => h9) rfl dX1_cut_74 ?_
    refine lv_icmp_ge (tgt := 187) hx hb dX1_cut_77 (by decide) (fun c => ?_) (fun c => ?_)
    · have h := h.1 c
      refine lv_aload_n hx hb dX1_cut_187 rfl (lv_at hl 0 rfl) ?_
      refine va_get (D := (dC, dI)) (ci := 2) (v := .int fn) (C := RX1) (T := TX1) (N := 17) hx hb hts in_X1_cut hown hK hP 0 rfl rfl 8 (by decide) (hts (.fieldLink RX1 116 "SignCutterModel" "found" "I") (by decide +kernel)) (fun _ h9 => h9) rfl dX1_cut_188 ?_
      exact W.iret (v := fn) hx hb hr (hQ _ _ _ _ _ _ _ _ _ _ _ _ _ _ _ hP hD hS h) hS.2.2 dX1_cut_191
    · have h := h.2 c
      refine lv_aload_n hx hb dX1_cut_80 rfl (lv_at hl 0 rfl) ?_
      refine va_get (D := (dC, dI)) (ci := 2) (v := .ref (ad 6)) (C := RX1) (T := TX1) (N := 17) hx hb hts in_X1_cut hown hK hP 0 rfl rfl 9 (by decide) (hts (.fieldLink RX1 27 "SignCutterModel" "prices" "[J") (by decide +kernel)) (fun _ h9 => h9) rfl dX1_cut_81 ?_
      refine lv_iload_n hx hb dX1_cut_84 rfl (lv_at hl 3 rfl) ?_
      refine lv_aload_n hx hb dX1_cut_85 rfl (lv_at hl 0 rfl) ?_
      refine va_get (D := (dC, dI)) (ci := 2) (v := .ref (ad 3)) (C := RX1) (T := TX1) (N := 17) hx hb hts in_X1_cut hown hK hP 0 rfl rfl 5 (by decide) (hts (.fieldLink RX1 17 "SignCutterModel" "costs" "[J") (by decide +kernel)) (fun _ h9 => h9) rfl dX1_cut_86 ?_
      refine lv_bipush (v := 40) hx hb dX1_cut_89 (by decide) ?_
      refine lv_iload_n hx hb dX1_cut_91 rfl (lv_at hl 2 rfl) ?_
      refine lv_imul hx hb dX1_cut_92 ?_
      refine lv_iload_n hx hb dX1_cut_93 rfl (lv_at hl 3 rfl) ?_
      refine lv_iadd hx hb dX1_cut_94 ?_
      refine z_lald hx hb hK hP 3 2 rfl rfl h dX1_cut_95 (fun j_14 h => ?_)
      refine z_last hx hb hK hP hD hS 6 5 rfl rfl h dX1_cut_96 (fun j_15 H locs h hP hD hS => ?_)
      have hP : va_P (dC, dI) vwCl (wX1 ad cA nW nH th fn wd dk mn cs nx gs (vp_updL pr j_15 (cs j_14)) ln wy ct bf sg my) H := hP
      have hD : va_D A (wX1 ad cA nW nH th fn wd dk mn cs nx gs (vp_updL pr j_15 (cs j_14)) ln wy ct bf sg my) := hD
      refine lv_aload_n hx hb dX1_cut_97 rfl (lv_at hl 0 rfl) ?_
      refine va_get (D := (dC, dI)) (ci := 2) (v := .ref (ad 7)) (C := RX1) (T := TX1) (N := 17) hx hb hts in_X1_cut hown hK hP 0 rfl rfl 10 (by decide) (hts (.fieldLink RX1 30 "SignCutterModel" "lengths" "[I") (by decide +kernel)) (fun _ h9 => h9) rfl dX1_cut_98 ?_
      refine lv_iload_n hx hb dX1_cut_101 rfl (lv_at hl 3 rfl) ?_
      refine lv_iconst (v := 0) hx hb dX1_cut_102 (by decide) ?_
      refine z_iast hx hb hK hP hD hS 7 6 rfl rfl h dX1_cut_103 (fun j_16 H locs h hP hD hS => ?_)
      have hP : va_P (dC, dI) vwCl (wX1 ad cA nW nH th fn wd dk mn cs nx gs (vp_updL pr j_15 (cs j_14)) (upd ln j_16 0) wy ct bf sg my) H := hP
      have hD : va_D A (wX1 ad cA nW nH th fn wd dk mn cs nx gs (vp_updL pr j_15 (cs j_14)) (upd ln j_16 0) wy ct bf sg my) := hD
      refine lv_iload_n hx hb dX1_cut_104 rfl (lv_at hl 2 rfl) ?_
      refine lv_istore (lv' := [(4, .int x2), (0, .ref (ad 0)), (1, .int a1), (2, .int x2), (3, .int x3)]) hx hb dX1_cut_105 hl (by decide) rfl (fun ls hl => ?_)
      refine lv_iload_n hx hb dX1_cut_107 rfl (lv_at hl 4 rfl) ?_
      refine lv_istore (lv' := [(5, .int x3), (4, .int x2), (0, .ref (ad 0)), (1, .int a1), (2, .int x2), (3, .int x3)]) hx hb dX1_cut_108 hl (by decide) rfl (fun ls hl => ?_)
      obtain ⟨n_25, h⟩ := h
      exact tX1_cut_110 hC0 hK hA hQ hr72 n_25 _ _ _ _ _ _ _ _ _ _ _ _ _ _ _ _ _ _ hP hD hS ls (lv_sub hl [2, 3, 4, 5, 1, 0] rfl) h
set_option maxHeartbeats 4000000 in
set_option maxRecDepth 100000 in
theorem mX1_cut (l : Launch) {dC : Nat → ClassId} {dI : Nat → Nat → Nat} {ad : Nat → Nat} {cA : Nat → ClassId} {nW : Nat} {nH : Nat} {th : Int32} {fn : Int32} {wd : Int32} {dk : Nat → Int32} {mn : Nat → Int32} {cs : Nat → Int64} {nx : Nat → Int32} {gs : Nat → Int32} {pr : Nat → Int64} {ln : Nat → Int32} {wy : Nat → Int32} {ct : Nat → Int64} {bf : Nat → Int64} {sg : Nat → Int64} {my : Nat → Int32} {sz : Nat} {a1 : Int32} {Post : Int32 → (Int32) → (Int32) → (Int32) → (Nat → Int32) → (Nat → Int64) → (Nat → Int32) → (Nat → Int32) → (Nat → Int64) → (Nat → Int32) → (Nat → Int32) → (Nat → Int64) → (Nat → Int32) → Prop} (h : wX1_cut nW nH dk th fn wd mn cs nx gs pr ln wy sg my a1 Post) : Met l yX1_cut wsX1_cut ({ frames := 7, cells := 0, slots := 0, locals := 160 } : Room) (zPw (dC, dI) vwCl (tX1 cA) (wX1 ad cA nW nH th fn wd dk mn cs nx gs pr ln wy ct bf sg my) sz [.ref (ad 0), .int a1]) (va_Qi (S := (Int32) × (Int32) × (Int32) × (Nat → Int32) × (Nat → Int64) × (Nat → Int32) × (Nat → Int32) × (Nat → Int64) × (Nat → Int32) × (Nat → Int32) × (Nat → Int64) × (Nat → Int32)) (fun (r : Int32) (u : (Int32) × (Int32) × (Int32) × (Nat → Int32) × (Nat → Int64) × (Nat → Int32) × (Nat → Int32) × (Nat → Int64) × (Nat → Int32) × (Nat → Int32) × (Nat → Int64) × (Nat → Int32)) => Post r u.1 u.2.1 u.2.2.1 u.2.2.2.1 u.2.2.2.2.1 u.2.2.2.2.2.1 u.2.2.2.2.2.2.1 u.2.2.2.2.2.2.2.1 u.2.2.2.2.2.2.2.2.1 u.2.2.2.2.2.2.2.2.2.1 u.2.2.2.2.2.2.2.2.2.2.1 u.2.2.2.2.2.2.2.2.2.2.2) (zB (dC, dI) vwCl (tX1 cA) (wX1 ad cA nW nH th fn wd dk mn cs nx gs pr ln wy ct bf sg my) sz (fun u : (Int32) × (Int32) × (Int32) × (Nat → Int32) × (Nat → Int64) × (Nat → Int32) × (Nat → Int32) × (Nat → Int64) × (Nat → Int32) × (Nat → Int32) × (Nat → Int64) × (Nat → Int32) => wX1 ad cA nW nH u.1 u.2.1 u.2.2.1 dk u.2.2.2.1 u.2.2.2.2.1 u.2.2.2.2.2.1 u.2.2.2.2.2.2.1 u.2.2.2.2.2.2.2.1 u.2.2.2.2.2.2.2.2.1 u.2.2.2.2.2.2.2.2.2.1 ct bf u.2.2.2.2.2.2.2.2.2.2.1 u.2.2.2.2.2.2.2.2.2.2.2)) (va_A (wX1 ad cA nW nH th fn wd dk mn cs nx gs pr ln wy ct bf sg my) sz)) 0 0 (va_A (wX1 ad cA nW nH th fn wd dk mn cs nx gs pr ln wy ct bf sg my) sz) := by
  refine Met.ofW (cc := cX1_cut) (maxL := 7) (ret := (some .int)) (by decide) rfl ?_
  intro p e s m args below meth c s₁ B hml hv
  obtain ⟨rfl, hsz, hP, hK, hD0⟩ := hv
  have hC : zC p s m [.ref (ad 0), .int a1].toArray meth c cX1_cut wsX1_cut (some .int) 7 RX1 := ⟨B.exec, B.bytes, B.returns, hml, findClass_of_methodNamed B.named, atoms_spec (ws := wsX1_cut) B.pre, B.notSynchronized⟩
  have hC0 := hC
  obtain ⟨hx, hb, hr, hml, hown, hts, hlocks⟩ := hC
  subst hsz
  have hD := hD0.self (sz := s.heap.size)
  have hA : ∀ q : Nat, s.heap.size ≤ q → va_A (wX1 ad cA nW nH th fn wd dk mn cs nx gs pr ln wy ct bf sg my) s.heap.size q := fun q h => Or.inr h
  have hS : va_S (va_A (wX1 ad cA nW nH th fn wd dk mn cs nx gs pr ln wy ct bf sg my) s.heap.size) s.heap s.heap [] := va_S.rf
  generalize hQe : (va_Qi (S := (Int32) × (Int32) × (Int32) × (Nat → Int32) × (Nat → Int64) × (Nat → Int32) × (Nat → Int32) × (Nat → Int64) × (Nat → Int32) × (Nat → Int32) × (Nat → Int64) × (Nat → Int32)) (fun (r : Int32) (u : (Int32) × (Int32) × (Int32) × (Nat → Int32) × (Nat → Int64) × (Nat → Int32) × (Nat → Int32) × (Nat → Int64) × (Nat → Int32) × (Nat → Int32) × (Nat → Int64) × (Nat → Int32)) => Post r u.1 u.2.1 u.2.2.1 u.2.2.2.1 u.2.2.2.2.1 u.2.2.2.2.2.1 u.2.2.2.2.2.2.1 u.2.2.2.2.2.2.2.1 u.2.2.2.2.2.2.2.2.1 u.2.2.2.2.2.2.2.2.2.1 u.2.2.2.2.2.2.2.2.2.2.1 u.2.2.2.2.2.2.2.2.2.2.2) (zB (dC, dI) vwCl (tX1 cA) (wX1 ad cA nW nH th fn wd dk mn cs nx gs pr ln wy ct bf sg my) s.heap.size (fun u : (Int32) × (Int32) × (Int32) × (Nat → Int32) × (Nat → Int64) × (Nat → Int32) × (Nat → Int32) × (Nat → Int64) × (Nat → Int32) × (Nat → Int32) × (Nat → Int64) × (Nat → Int32) => wX1 ad cA nW nH u.1 u.2.1 u.2.2.1 dk u.2.2.2.1 u.2.2.2.2.1 u.2.2.2.2.2.1 u.2.2.2.2.2.2.1 u.2.2.2.2.2.2.2.1 u.2.2.2.2.2.2.2.2.1 u.2.2.2.2.2.2.2.2.2.1 ct bf u.2.2.2.2.2.2.2.2.2.2.1 u.2.2.2.2.2.2.2.2.2.2.2)) (va_A (wX1 ad cA nW nH th fn wd dk mn cs nx gs pr ln wy ct bf sg my) s.heap.size)) = Qc
  generalize hAe : va_A (wX1 ad cA nW nH th fn wd dk mn cs nx gs pr ln wy ct bf sg my) s.heap.size = A at hD hA hS hQe ⊢
  have hQ : ∀ (r : Int32) (th : Int32) (fn : Int32) (wd : Int32) (mn : Nat → Int32) (cs : Nat → Int64) (nx : Nat → Int32) (gs : Nat → Int32) (pr : Nat → Int64) (ln : Nat → Int32) (wy : Nat → Int32) (sg : Nat → Int64) (my : Nat → Int32) (H : Heap) (locs : List Loc), va_P (dC, dI) vwCl (wX1 ad cA nW nH th fn wd dk mn cs nx gs pr ln wy ct bf sg my) H → va_D A (wX1 ad cA nW nH th fn wd dk mn cs nx gs pr ln wy ct bf sg my) → va_S A s.heap H locs → Post r th fn wd mn cs nx gs pr ln wy sg my → ∀ t : State, t.heap = H → s.WarmedH t.vm → Qc [.ref (ad 0), .int a1].toArray s (.returned (some (.int r))) t := by
    intro r th fn wd mn cs nx gs pr ln wy sg my H locs hP hD hS h t ht hW
    rw [← hQe]
    exact ⟨⟨r, (th, fn, wd, mn, cs, nx, gs, pr, ln, wy, sg, my), rfl, h, by rw [ht]; exact hP, va_K.moved hW.alike hK, hAe ▸ hD⟩, hS.F ht⟩
  clear hQe hAe
  have hl := lv_entry ([.ref (ad 0), .int a1]) (n := 7) (Nat.le_of_ble_eq_true rfl)
  rw [lg_entry_eq]
  generalize (lg_sl ([.ref (ad 0), .int a1]) ++ List.replicate (7 - (lg_sl ([.ref (ad 0), .int a1])).length) Slot.unset).toArray = ls at hl ⊢
  have hl : lv_has ls 7 [(0, .ref (ad 0)), (1, .int a1)] := hl
  show W p l e ({ frames := 7, cells := 0, slots := 0, locals := 160 } : Room) s m _ below meth c s.heap [] 0 0 (MQ below Qc _ s 0 0 A) (F0 m 0 ls [])
  unfold wX1_cut at h
  refine lv_aload_n hx hb dX1_cut_0 rfl (lv_at hl 0 rfl) ?_
  refine lv_iconst (v := 0) hx hb dX1_cut_1 (by decide) ?_
  refine va_put (D := (dC, dI)) (ci := 2) (v := .int 0) (ty := .int) (C := RX1) (T := TX1) (N := 17) hx hb hts in_X1_cut tyX1 tyX1_ok nmX1 hown hK hP hD hS 0 rfl rfl 0 (by decide) (hts (.fieldLink RX1 55 "SignCutterModel" "thrown" "I") (by decide +kernel)) (fun _ h9 => h9) rfl (by decide +kernel) rfl rfl (Nat.le_of_ble_eq_true rfl) dX1_cut_2 (fun H locs hP hD hS => ?_)
  have hP : va_P (dC, dI) vwCl (wX1 ad cA nW nH 0 fn wd dk mn cs nx gs pr ln wy ct bf sg my) H := hP
  have hD : va_D A (wX1 ad cA nW nH 0 fn wd dk mn cs nx gs pr ln wy ct bf sg my) := hD
  refine lv_iload_n hx hb dX1_cut_5 rfl (lv_at hl 1 rfl) ?_
  refine lv_iconst (v := 1) hx hb dX1_cut_6 (by decide) ?_
  refine lv_icmp_lt (tgt := 16) hx hb dX1_cut_7 (by decide) (fun c => ?_) (fun c => ?_)
  · have h := h.1 c
    refine lv_iconst (v := (-1)) hx hb dX1_cut_16 (by decide) ?_
    exact W.iret (v := (-1)) hx hb hr (hQ _ _ _ _ _ _ _ _ _ _ _ _ _ _ _ hP hD hS h) hS.2.2 dX1_cut_17
  · have h := h.2 c
    refine lv_iload_n hx hb dX1_cut_10 rfl (lv_at hl 1 rfl) ?_
    refine lv_bipush (v := 40) hx hb dX1_cut_11 (by decide) ?_
    refine lv_icmp_le (tgt := 18) hx hb dX1_cut_13 (by decide) (fun c => ?_) (fun c => ?_)
    · have h := h.1 c
      refine lv_aload_n hx hb dX1_cut_18 rfl (lv_at hl 0 rfl) ?_
      refine lv_iconst (v := 0) hx hb dX1_cut_19 (by decide) ?_
      refine va_put (D := (dC, dI)) (ci := 2) (v := .int 0) (ty := .int) (C := RX1) (T := TX1) (N := 17) hx hb hts in_X1_cut tyX1 tyX1_ok nmX1 hown hK hP hD hS 0 rfl rfl 8 (by decide) (hts (.fieldLink RX1 116 "SignCutterModel" "found" "I") (by decide +kernel)) (fun _ h9 => h9) rfl (by decide +kernel) rfl rfl (Nat.le_of_ble_eq_true rfl) dX1_cut_20 (fun H locs hP hD hS => ?_)
      have hP : va_P (dC, dI) vwCl (wX1 ad cA nW nH 0 0 wd dk mn cs nx gs pr ln wy ct bf sg my) H := hP
      have hD : va_D A (wX1 ad cA nW nH 0 0 wd dk mn cs nx gs pr ln wy ct bf sg my) := hD
      refine lv_aload_n hx hb dX1_cut_23 rfl (lv_at hl 0 rfl) ?_
      refine z_cVi (ci := 2) (As := []) (rest := []) ⟨hx, hb, hml, hown, hts⟩ (mX1_mostInRow l h) (cwV 0 hts gX1_cut_X1_mostInRow rfl rfl rfl (by decide +kernel) ⟨Nat.le_of_ble_eq_true rfl, Nat.le_of_ble_eq_true rfl⟩) hK hP 0 rfl rfl rfl rfl hl.1 rfl (Nat.le_of_ble_eq_true rfl) dX1_cut_24 ⟨Nat.le_of_ble_eq_true rfl, Nat.le_of_ble_eq_true rfl⟩ (fun r_1 h => ?_)
      refine lv_if_ne (tgt := 32) hx hb dX1_cut_27 (by decide) (fun c => ?_) (fun c => ?_)
      · have h := h.2 c
        refine lv_aload_n hx hb dX1_cut_32 rfl (lv_at hl 0 rfl) ?_
        refine z_cVi (ci := 2) (As := []) (rest := []) ⟨hx, hb, hml, hown, hts⟩ (mX1_from l h) (cwV 0 hts gX1_cut_X1_from rfl rfl rfl (by decide +kernel) ⟨Nat.le_of_ble_eq_true rfl, Nat.le_of_ble_eq_true rfl⟩) hK hP 0 rfl rfl rfl rfl hl.1 rfl (Nat.le_of_ble_eq_true rfl) dX1_cut_33 ⟨Nat.le_of_ble_eq_true rfl, Nat.le_of_ble_eq_true rfl⟩ (fun r_2 h => ?_)
        refine lv_istore_n (lv' := [(2, .int r_2), (0, .ref (ad 0)), (1, .int a1)]) hx hb dX1_cut_36 rfl hl (by decide) rfl (fun ls hl => ?_)
        refine lv_aload_n hx hb dX1_cut_37 rfl (lv_at hl 1 rfl) ?_
        refine lv_iload_n hx hb dX1_cut_38 rfl (lv_at hl 0 rfl) ?_
        refine lv_aload_n hx hb dX1_cut_39 rfl (lv_at hl 1 rfl) ?_
        refine z_cVi (ci := 2) (As := []) (rest := [.int r_2, .ref (ad 0)]) ⟨hx, hb, hml, hown, hts⟩ (mX1_until l h) (cwV 0 hts gX1_cut_X1_until rfl rfl rfl (by decide +kernel) ⟨Nat.le_of_ble_eq_true rfl, Nat.le_of_ble_eq_true rfl⟩) hK hP 0 rfl rfl rfl rfl hl.1 rfl (Nat.le_of_ble_eq_true rfl) dX1_cut_40 ⟨Nat.le_of_ble_eq_true rfl, Nat.le_of_ble_eq_true rfl⟩ (fun r_3 h => ?_)
        refine z_cVv (ci := 2) (As := [.int r_2, .int r_3]) (rest := []) ⟨hx, hb, hml, hown, hts⟩ (mX1_fill l h) (cwV 2 hts gX1_cut_X1_fill rfl rfl rfl (by decide +kernel) ⟨Nat.le_of_ble_eq_true rfl, Nat.le_of_ble_eq_true rfl⟩) hK hP hD hS hA 0 rfl rfl rfl rfl hl.1 rfl (Nat.le_of_ble_eq_true rfl) dX1_cut_43 ⟨Nat.le_of_ble_eq_true rfl, Nat.le_of_ble_eq_true rfl⟩ (fun u_4 H locs h hP hD hS => ?_)
        revert h hP hD
        generalize u_4.1 = wd_6
        generalize u_4.2.1 = mn_7
        generalize u_4.2.2.1 = cs_8
        generalize u_4.2.2.2.1 = nx_9
        generalize u_4.2.2.2.2.1 = gs_10
        generalize u_4.2.2.2.2.2.1 = sg_11
        generalize u_4.2.2.2.2.2.2 = my_12
        intro h hP hD
        have hP : va_P (dC, dI) vwCl (wX1 ad cA nW nH 0 0 wd_6 dk mn_7 cs_8 nx_9 gs_10 pr ln wy ct bf sg_11 my_12) H := hP
        have hD : va_D A (wX1 ad cA nW nH 0 0 wd_6 dk mn_7 cs_8 nx_9 gs_10 pr ln wy ct bf sg_11 my_12) := hD
        refine lv_aload_n hx hb dX1_cut_46 rfl (lv_at hl 1 rfl) ?_
        refine lv_aload_n hx hb dX1_cut_47 rfl (lv_at hl 1 rfl) ?_
        refine va_get (D := (dC, dI)) (ci := 2) (v := .ref (ad 2)) (C := RX1) (T := TX1) (N := 17) hx hb hts in_X1_cut hown hK hP 0 rfl rfl 4 (by decide) (hts (.fieldLink RX1 13 "SignCutterModel" "many" "[I") (by decide +kernel)) (fun _ h9 => h9) rfl dX1_cut_48 ?_
        refine lv_iload_n hx hb dX1_cut_51 rfl (lv_at hl 0 rfl) ?_
        refine z_iald hx hb hK hP 2 1 rfl rfl h dX1_cut_52 (fun j_13 h => ?_)
        refine lv_iload_n hx hb dX1_cut_53 rfl (lv_at hl 2 rfl) ?_
        refine lv_icmp_ge (tgt := 66) hx hb dX1_cut_54 (by decide) (fun c => ?_) (fun c => ?_)
        · have h := h.1 c
          refine lv_iload_n hx hb dX1_cut_66 rfl (lv_at hl 2 rfl) ?_
          refine va_put (D := (dC, dI)) (ci := 2) (v := .int a1) (ty := .int) (C := RX1) (T := TX1) (N := 17) hx hb hts in_X1_cut tyX1 tyX1_ok nmX1 hown hK hP hD hS 0 rfl rfl 8 (by decide) (hts (.fieldLink RX1 116 "SignCutterModel" "found" "I") (by decide +kernel)) (fun _ h9 => h9) rfl (by decide +kernel) rfl rfl (Nat.le_of_ble_eq_true rfl) dX1_cut_67 (fun H locs hP hD hS => ?_)
          have hP : va_P (dC, dI) vwCl (wX1 ad cA nW nH 0 a1 wd_6 dk mn_7 cs_8 nx_9 gs_10 pr ln wy ct bf sg_11 my_12) H := hP
          have hD : va_D A (wX1 ad cA nW nH 0 a1 wd_6 dk mn_7 cs_8 nx_9 gs_10 pr ln wy ct bf sg_11 my_12) := hD
          refine lv_iconst (v := 0) hx hb dX1_cut_70 (by decide) ?_
          refine lv_istore_n (lv' := [(3, .int 0), (2, .int r_2), (0, .ref (ad 0)), (1, .int a1)]) hx hb dX1_cut_71 rfl hl (by decide) rfl (fun ls hl => ?_)
          obtain ⟨n_26, h⟩ := h
          exact tX1_cut_72 hC0 hK hA hQ n_26 _ _ _ _ _ _ _ _ _ _ _ _ _ _ _ _ hP hD hS ls (lv_sub hl [2, 3, 1, 0] rfl) h
        · have h := h.2 c
          refine lv_aload_n hx hb dX1_cut_57 rfl (lv_at hl 1 rfl) ?_
          refine va_get (D := (dC, dI)) (ci := 2) (v := .ref (ad 2)) (C := RX1) (T := TX1) (N := 17) hx hb hts in_X1_cut hown hK hP 0 rfl rfl 4 (by decide) (hts (.fieldLink RX1 13 "SignCutterModel" "many" "[I") (by decide +kernel)) (fun _ h9 => h9) rfl dX1_cut_58 ?_
          refine lv_iload_n hx hb dX1_cut_61 rfl (lv_at hl 0 rfl) ?_
          refine z_iald hx hb hK hP 2 1 rfl rfl h dX1_cut_62 (fun j_27 h => ?_)
          refine lv_goto (tgt := 67) hx hb dX1_cut_63 (by decide) ?_
          refine lv_topi (fun v_28 ev_28 => ?_)
          have h := h v_28 ev_28
          refine va_put (D := (dC, dI)) (ci := 2) (v := .int v_28) (ty := .int) (C := RX1) (T := TX1) (N := 17) hx hb hts in_X1_cut tyX1 tyX1_ok nmX1 hown hK hP hD hS 0 rfl rfl 8 (by decide) (hts (.fieldLink RX1 116 "SignCutterModel" "found" "I") (by decide +kernel)) (fun _ h9 => h9) rfl (by decide +kernel) rfl rfl (Nat.le_of_ble_eq_true rfl) dX1_cut_67 (fun H locs hP hD hS => ?_)
          have hP : va_P (dC, dI) vwCl (wX1 ad cA nW nH 0 v_28 wd_6 dk mn_7 cs_8 nx_9 gs_10 pr ln wy ct bf sg_11 my_12) H := hP
          have hD : va_D A (wX1 ad cA nW nH 0 v_28 wd_6 dk mn_7 cs_8 nx_9 gs_10 pr ln wy ct bf sg_11 my_12) := hD
          refine lv_iconst (v := 0) hx hb dX1_cut_70 (by decide) ?_
          refine lv_istore_n (lv' := [(3, .int 0), (2, .int r_2), (0, .ref (ad 0)), (1, .int a1)]) hx hb dX1_cut_71 rfl hl (by decide) rfl (fun ls hl => ?_)
          obtain ⟨n_29, h⟩ := h
          exact tX1_cut_72 hC0 hK hA hQ n_29 _ _ _ _ _ _ _ _ _ _ _ _ _ _ _ _ hP hD hS ls (lv_sub hl [2, 3, 1, 0] rfl) h
      · have h := h.1 c
        refine lv_iconst (v := 0) hx hb dX1_cut_30 (by decide) ?_
        exact W.iret (v := 0) hx hb hr (hQ _ _ _ _ _ _ _ _ _ _ _ _ _ _ _ hP hD hS h) hS.2.2 dX1_cut_31
    · have h := h.2 c
      refine lv_iconst (v := (-1)) hx hb dX1_cut_16 (by decide) ?_
      exact W.iret (v := (-1)) hx hb hr (hQ _ _ _ _ _ _ _ _ _ _ _ _ _ _ _ hP hD hS h) hS.2.2 dX1_cut_17
