/-! ===== what the class's own throw asks of the machine ===== -/
def zNm : List String := ["java/lang/IndexOutOfBoundsException", "java/lang/RuntimeException", "java/lang/Exception"]
def zOwn : List Cond := Bundle.ownAtoms RX0 52 RJx00060 zNm
def zOwnG : List Cond := zOwn.filter (fun w => w.onTables && w.keeps)
/-- those that hold under warmer tables, though not all readers say so -/
def zDW : List Cond := [.declares (Bundle.initS "java/lang/IndexOutOfBoundsException"), .declares (Bundle.initS "java/lang/RuntimeException"), .declares (Bundle.initS "java/lang/Exception"), .declares (Bundle.initS "java/lang/Throwable"), .castable RJx00060 RJx00060]
def zSW : List Cond := [.laysStatic "java/lang/Throwable" "UNASSIGNED_STACK" "[Ljava/lang/StackTraceElement;", .laysStatic "java/lang/Throwable" "SUPPRESSED_SENTINEL" "Ljava/util/List;", .isRef (.static "java/lang/Throwable" "UNASSIGNED_STACK" "[Ljava/lang/StackTraceElement;"), .isRef (.static "java/lang/Throwable" "SUPPRESSED_SENTINEL" "Ljava/util/List;")]
set_option maxRecDepth 20000 in
theorem zOwn_rest : ∀ w ∈ zOwn, (w.onTables && w.keeps) = false → w ∈ zDW ++ zSW := by
  have h : ∀ w ∈ zOwn.filter (fun w => !(w.onTables && w.keeps)), w ∈ zDW ++ zSW := by decide +kernel
  exact fun w hw hf => h w (List.mem_filter.mpr ⟨hw, by rw [hf]; rfl⟩)
theorem zOwn_split {w : Cond} (hw : w ∈ zOwn) : w ∈ zOwnG ∨ w ∈ zDW ∨ w ∈ zSW := by
  cases hf : (w.onTables && w.keeps) with
  | true => exact Or.inl (List.mem_filter.mpr ⟨hw, hf⟩)
  | false => exact Or.inr (List.mem_append.mp (zOwn_rest w hw hf))
set_option maxRecDepth 20000 in
theorem zOwnG_in : GoodIn lw_tbl zOwnG := goodIn_r _ [39, 250, 259, 261, 264, 266, 251, 252, 52, 53, 253, 258, 262, 285, 240, 286, 242, 287, 244, 254, 256, 246, 281, 282, 284, 246, 269, 270, 271, 272, 272, 273, 274, 275, 275, 276, 277, 278, 278, 279, 280, 281, 268, 227, 237, 238, 239, 241, 243, 245, 249, 248, 247] (by decide +kernel) (by decide +kernel)
/-- a static of Throwable, and what it holds -/
def zSF (n d : String) (A : Nat → Prop) (U : State) (H : Heap) : Prop := ∃ (c : ClassId) (k : Class) (i : Nat) (f : Field) (a : Nat) (cell : Cell) (v : Value), U.vm.findClass "java/lang/Throwable" = some c ∧ U.fieldFound? "java/lang/Throwable" n d = some (c, k, i, f) ∧ f.isStatic = true ∧ k.statics = some a ∧ H[a]? = some cell ∧ cell.vm.isStatics = true ∧ cell.cls = c ∧ f.slot < cell.slots.size ∧ k.staticTypes[f.slot]? = some f.type ∧ cell.slots[f.slot]? = some v ∧ (v = .null ∨ ∃ t, v = .ref t) ∧ ¬ A a
theorem zSF.moved {n d : String} {A : Nat → Prop} {u U : State} {H : Heap} (hvm : u.vm.Alike U.vm) (h : zSF n d A u H) : zSF n d A U H := by
  obtain ⟨c, k, i, f, a, cell, v, h1, h2, h3, h4, h5⟩ := h
  obtain ⟨k', hi', he⟩ := State.fieldFound?_setVm hvm h2
  exact ⟨c, k', i, f, a, cell, v, by rw [hvm.findClass]; exact h1, hi', h3, by rw [he]; exact h4, h5.1, h5.2.1, h5.2.2.1, h5.2.2.2.1, by rw [he]; exact h5.2.2.2.2.1, h5.2.2.2.2.2⟩
theorem zSF.kept {n d : String} {A : Nat → Prop} {U : State} {H H1 : Heap} (h : zSF n d A U H) (hq : ∀ a : Nat, a < H.size → ¬ A a → H1[a]? = H[a]?) : zSF n d A U H1 := by
  obtain ⟨c, k, i, f, a, cell, v, h1, h2, h3, h4, h5, h6, h7, h8, h9, h10, h11, h12⟩ := h
  exact ⟨c, k, i, f, a, cell, v, h1, h2, h3, h4, by rw [hq a (Array.getElem?_eq_some_iff.mp h5).1 h12]; exact h5, h6, h7, h8, h9, h10, h11, h12⟩
theorem zSF.narrow {n d : String} {A B : Nat → Prop} {U : State} {H : Heap} (h : zSF n d A U H) (hAB : ∀ q, B q → A q) : zSF n d B U H := by
  obtain ⟨c, k, i, f, a, cell, v, h1, h2, h3, h4, h5, h6, h7, h8, h9, h10, h11, h12⟩ := h
  exact ⟨c, k, i, f, a, cell, v, h1, h2, h3, h4, h5, h6, h7, h8, h9, h10, h11, fun z => h12 (hAB a z)⟩
theorem zSF.of {args : Array Value} {s : State} {n d : String} {A : Nat → Prop} (hl : (Cond.laysStatic "java/lang/Throwable" n d).before args s = true) (h : (Cond.isRef (.static "java/lang/Throwable" n d)).before args s = true) (hA : ∀ a : Nat, a < s.heap.size → ¬ A a) : zSF n d A s s.heap := by
  obtain ⟨c, k, i, f, a, cell, hc, hi, hst, ha, hcell, hs, hcls, hlt, hty⟩ := Cond.laysStatic_spec hl
  have go : ∀ v : Value, (Term.static "java/lang/Throwable" n d).eval args s none [] s = some v → (v = .null ∨ ∃ t, v = .ref t) → zSF n d A s s.heap := by
    intro v hv hr
    obtain ⟨hst', a', cell', ha', hcell', -, hslot⟩ := Term.static_spec hi hv
    cases ha.symm.trans ha'
    cases hcell.symm.trans hcell'
    exact ⟨c, k, i, f, a, cell, v, hc, hi, hst, ha, hcell, hs, hcls, hlt, hty, hslot, hr, hA a (Array.getElem?_eq_some_iff.mp hcell).1⟩
  cases hv : (Term.static "java/lang/Throwable" n d).eval args s none [] s with
  | none => simp [Cond.before, Cond.holds, Cond.value, hv] at h
  | some w =>
    simp only [Cond.before, Cond.holds, Cond.value, hv] at h
    cases w with
    | null => exact go _ hv (Or.inl rfl)
    | ref t => exact go _ hv (Or.inr ⟨t, rfl⟩)
    | _ => simp at h
theorem zSF.to {n d : String} {A : Nat → Prop} {U : State} (h : zSF n d A U U.heap) (args : Array Value) : (Cond.laysStatic "java/lang/Throwable" n d).before args U = true ∧ (Cond.isRef (.static "java/lang/Throwable" n d)).before args U = true := by
  obtain ⟨c, k, i, f, a, cell, v, h1, h2, h3, h4, h5, h6, h7, h8, h9, h10, h11, -⟩ := h
  constructor
  · simp [Cond.before, Cond.holds, Cond.value, h1, h2, h3, h4, h5, h6, h7, h8, h9]
  · rcases h11 with rfl | ⟨t, rfl⟩ <;> simp [Cond.before, Cond.holds, Cond.value, Term.eval, State.fieldNamed?, h2, h3, h4, h5, h6, h10]
/-- all that is no word of the tables -/
def zX (tq : Nat) (A : Nat → Prop) (U : State) (H : Heap) : Prop := zSF "UNASSIGNED_STACK" "[Ljava/lang/StackTraceElement;" A U H ∧ zSF "SUPPRESSED_SENTINEL" "Ljava/util/List;" A U H ∧ (∀ w ∈ zDW, w.before #[] U = true) ∧ vk_R RX0 50 "there is no such spot" tq U
theorem zDW_warm {s U : State} (hW : s.WarmedH U.vm) (h : ∀ w ∈ zDW, w.before #[] s = true) : ∀ w ∈ zDW, w.before #[] U = true := by
  intro w hw
  have h1 := h w hw
  have h2 : w.before #[] (s.setVm U.vm) = true := by
    refine Cond.before_warmed hW w ?_ h1
    simp only [zDW, List.mem_cons, List.not_mem_nil, or_false] at hw
    rcases hw with rfl | rfl | rfl | rfl | rfl <;> exact trivial
  refine va_tabs (c := w) ?_ (u := s.setVm U.vm) (U := U) rfl h2
  simp only [zDW, List.mem_cons, List.not_mem_nil, or_false] at hw
  rcases hw with rfl | rfl | rfl | rfl | rfl <;> rfl
theorem zX.warm {tq : Nat} {A : Nat → Prop} {s U : State} {H : Heap} (hW : s.WarmedH U.vm) (h : zX tq A s H) : zX tq A U H :=
  ⟨h.1.moved hW.alike, h.2.1.moved hW.alike, zDW_warm hW h.2.2.1, h.2.2.2.warm hW⟩
theorem zX.same {tq : Nat} {A : Nat → Prop} {u U : State} {H : Heap} (hv : U.vm = u.vm) (h : zX tq A u H) : zX tq A U H := zX.warm (by rw [hv]; exact State.WarmedH.refl u) h
theorem zX.kept {tq : Nat} {A : Nat → Prop} {U : State} {H H1 : Heap} (h : zX tq A U H) (hq : ∀ a : Nat, a < H.size → ¬ A a → H1[a]? = H[a]?) : zX tq A U H1 := ⟨h.1.kept hq, h.2.1.kept hq, h.2.2⟩
theorem zX.narrow {tq : Nat} {A B : Nat → Prop} {U : State} {H : Heap} (h : zX tq A U H) (hAB : ∀ q, B q → A q) : zX tq B U H := ⟨h.1.narrow hAB, h.2.1.narrow hAB, h.2.2⟩
/-- all words of the throw, out of the tables' words and these -/
theorem zOwn_all {tq : Nat} {A : Nat → Prop} {args : Array Value} {s : State} (h : ∀ w ∈ zOwnG, w.before args s = true) (hX : zX tq A s s.heap) : ∀ w ∈ zOwn, w.before args s = true := by
  intro w hw
  rcases zOwn_split hw with h1 | h1 | h1
  · exact h w h1
  · have h2 := hX.2.2.1 w h1
    refine va_tabs (c := w) ?_ (u := s) (U := s) rfl h2
    simp only [zDW, List.mem_cons, List.not_mem_nil, or_false] at h1
    rcases h1 with rfl | rfl | rfl | rfl | rfl <;> rfl
  · simp only [zSW, List.mem_cons, List.not_mem_nil, or_false] at h1
    rcases h1 with rfl | rfl | rfl | rfl
    · exact (hX.1.to args).1
    · exact (hX.2.1.to args).1
    · exact (hX.1.to args).2
    · exact (hX.2.1.to args).2
