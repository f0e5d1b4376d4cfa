section
-- ===== PART A: goes FIRST, ahead of the names: the tables' words, and 'selects' of the private methods out of them =====
/-- a private method of a class that the tables say can be made, by its rows of tables_1 -/
def lw_okq (q : MethodName × Nat) : Prop := (q.1.cls ≠ "java/lang/invoke/MethodHandle" ∧ q.1.cls ≠ "java/lang/invoke/VarHandle") ∧ Cond.instantiable q.1.cls q.2 ∈ tables_1 ∧ Cond.privateMethod q.1 ∈ tables_1 ∧ Cond.instanceMethod q.1 ∈ tables_1
theorem lw_p0 : lw_okq (⟨"SignCutter", "firstDarkColumn", "()I"⟩, 11) := ⟨⟨by decide +kernel, by decide +kernel⟩, List.mem_of_getElem? (i := 12) (by decide +kernel), List.mem_of_getElem? (i := 66) (by decide +kernel), List.mem_of_getElem? (i := 67) (by decide +kernel)⟩
theorem lw_p1 : lw_okq (⟨"SignCutter", "lastDarkColumn", "()I"⟩, 11) := ⟨⟨by decide +kernel, by decide +kernel⟩, List.mem_of_getElem? (i := 12) (by decide +kernel), List.mem_of_getElem? (i := 70) (by decide +kernel), List.mem_of_getElem? (i := 71) (by decide +kernel)⟩
theorem lw_p2 : lw_okq (⟨"SignCutter", "shelveUntil", "(I)V"⟩, 11) := ⟨⟨by decide +kernel, by decide +kernel⟩, List.mem_of_getElem? (i := 12) (by decide +kernel), List.mem_of_getElem? (i := 74) (by decide +kernel), List.mem_of_getElem? (i := 75) (by decide +kernel)⟩
theorem lw_p3 : lw_okq (⟨"SignCutter", "shelveEnds", "(III)V"⟩, 11) := ⟨⟨by decide +kernel, by decide +kernel⟩, List.mem_of_getElem? (i := 12) (by decide +kernel), List.mem_of_getElem? (i := 81) (by decide +kernel), List.mem_of_getElem? (i := 82) (by decide +kernel)⟩
theorem lw_p4 : lw_okq (⟨"SignCutter", "dueWidth", "()I"⟩, 11) := ⟨⟨by decide +kernel, by decide +kernel⟩, List.mem_of_getElem? (i := 12) (by decide +kernel), List.mem_of_getElem? (i := 85) (by decide +kernel), List.mem_of_getElem? (i := 86) (by decide +kernel)⟩
theorem lw_p5 : lw_okq (⟨"SignCutter", "lastStrongRow", "()I"⟩, 11) := ⟨⟨by decide +kernel, by decide +kernel⟩, List.mem_of_getElem? (i := 12) (by decide +kernel), List.mem_of_getElem? (i := 89) (by decide +kernel), List.mem_of_getElem? (i := 90) (by decide +kernel)⟩
theorem lw_p6 : lw_okq (⟨"SignCutter", "mostDarkInARow", "()I"⟩, 11) := ⟨⟨by decide +kernel, by decide +kernel⟩, List.mem_of_getElem? (i := 12) (by decide +kernel), List.mem_of_getElem? (i := 93) (by decide +kernel), List.mem_of_getElem? (i := 94) (by decide +kernel)⟩
theorem lw_p7 : lw_okq (⟨"SignCutter", "darkInRow", "(I)I"⟩, 11) := ⟨⟨by decide +kernel, by decide +kernel⟩, List.mem_of_getElem? (i := 12) (by decide +kernel), List.mem_of_getElem? (i := 97) (by decide +kernel), List.mem_of_getElem? (i := 98) (by decide +kernel)⟩
theorem lw_p8 : lw_okq (⟨"SignCutter", "firstStrongRow", "()I"⟩, 11) := ⟨⟨by decide +kernel, by decide +kernel⟩, List.mem_of_getElem? (i := 12) (by decide +kernel), List.mem_of_getElem? (i := 107) (by decide +kernel), List.mem_of_getElem? (i := 108) (by decide +kernel)⟩
theorem lw_p9 : lw_okq (⟨"SignCutter", "placesToCut", "(II)J"⟩, 11) := ⟨⟨by decide +kernel, by decide +kernel⟩, List.mem_of_getElem? (i := 12) (by decide +kernel), List.mem_of_getElem? (i := 111) (by decide +kernel), List.mem_of_getElem? (i := 112) (by decide +kernel)⟩
theorem lw_p10 : lw_okq (⟨"SignCutter", "touch", "(I)I"⟩, 11) := ⟨⟨by decide +kernel, by decide +kernel⟩, List.mem_of_getElem? (i := 12) (by decide +kernel), List.mem_of_getElem? (i := 115) (by decide +kernel), List.mem_of_getElem? (i := 116) (by decide +kernel)⟩
theorem lw_p11 : lw_okq (⟨"SignCutter", "shelveEndsAt", "(IIJII)V"⟩, 11) := ⟨⟨by decide +kernel, by decide +kernel⟩, List.mem_of_getElem? (i := 12) (by decide +kernel), List.mem_of_getElem? (i := 122) (by decide +kernel), List.mem_of_getElem? (i := 123) (by decide +kernel)⟩
theorem lw_p12 : lw_okq (⟨"SignCutter", "goOnFrom", "(IIII)V"⟩, 11) := ⟨⟨by decide +kernel, by decide +kernel⟩, List.mem_of_getElem? (i := 12) (by decide +kernel), List.mem_of_getElem? (i := 130) (by decide +kernel), List.mem_of_getElem? (i := 131) (by decide +kernel)⟩
theorem lw_p13 : lw_okq (⟨"SignCutter", "shelve", "(IIJI)Z"⟩, 11) := ⟨⟨by decide +kernel, by decide +kernel⟩, List.mem_of_getElem? (i := 12) (by decide +kernel), List.mem_of_getElem? (i := 134) (by decide +kernel), List.mem_of_getElem? (i := 135) (by decide +kernel)⟩
theorem lw_p14 : lw_okq (⟨"SignCutter", "isFound", "(I)Z"⟩, 11) := ⟨⟨by decide +kernel, by decide +kernel⟩, List.mem_of_getElem? (i := 12) (by decide +kernel), List.mem_of_getElem? (i := 142) (by decide +kernel), List.mem_of_getElem? (i := 143) (by decide +kernel)⟩
theorem lw_p15 : lw_okq (⟨"SignCutter", "shearedColumns", "(I)I"⟩, 11) := ⟨⟨by decide +kernel, by decide +kernel⟩, List.mem_of_getElem? (i := 12) (by decide +kernel), List.mem_of_getElem? (i := 162) (by decide +kernel), List.mem_of_getElem? (i := 163) (by decide +kernel)⟩
def lw_privs_1 : List (MethodName × Nat) := [(⟨"SignCutter", "firstDarkColumn", "()I"⟩, 11), (⟨"SignCutter", "lastDarkColumn", "()I"⟩, 11), (⟨"SignCutter", "shelveUntil", "(I)V"⟩, 11), (⟨"SignCutter", "shelveEnds", "(III)V"⟩, 11), (⟨"SignCutter", "dueWidth", "()I"⟩, 11), (⟨"SignCutter", "lastStrongRow", "()I"⟩, 11), (⟨"SignCutter", "mostDarkInARow", "()I"⟩, 11), (⟨"SignCutter", "darkInRow", "(I)I"⟩, 11), (⟨"SignCutter", "firstStrongRow", "()I"⟩, 11), (⟨"SignCutter", "placesToCut", "(II)J"⟩, 11), (⟨"SignCutter", "touch", "(I)I"⟩, 11), (⟨"SignCutter", "shelveEndsAt", "(IIJII)V"⟩, 11), (⟨"SignCutter", "goOnFrom", "(IIII)V"⟩, 11), (⟨"SignCutter", "shelve", "(IIJI)Z"⟩, 11), (⟨"SignCutter", "isFound", "(I)Z"⟩, 11), (⟨"SignCutter", "shearedColumns", "(I)I"⟩, 11)]
theorem lw_r1 : ∀ q ∈ lw_privs_1, lw_okq q := List.forall_mem_cons.mpr ⟨lw_p0, List.forall_mem_cons.mpr ⟨lw_p1, List.forall_mem_cons.mpr ⟨lw_p2, List.forall_mem_cons.mpr ⟨lw_p3, List.forall_mem_cons.mpr ⟨lw_p4, List.forall_mem_cons.mpr ⟨lw_p5, List.forall_mem_cons.mpr ⟨lw_p6, List.forall_mem_cons.mpr ⟨lw_p7, List.forall_mem_cons.mpr ⟨lw_p8, List.forall_mem_cons.mpr ⟨lw_p9, List.forall_mem_cons.mpr ⟨lw_p10, List.forall_mem_cons.mpr ⟨lw_p11, List.forall_mem_cons.mpr ⟨lw_p12, List.forall_mem_cons.mpr ⟨lw_p13, List.forall_mem_cons.mpr ⟨lw_p14, List.forall_mem_cons.mpr ⟨lw_p15, fun _ h => absurd h List.not_mem_nil⟩⟩⟩⟩⟩⟩⟩⟩⟩⟩⟩⟩⟩⟩⟩⟩
theorem lw_p16 : lw_okq (⟨"SignCutter", "lengthenTails", "(IIJ)V"⟩, 11) := ⟨⟨by decide +kernel, by decide +kernel⟩, List.mem_of_getElem? (i := 12) (by decide +kernel), List.mem_of_getElem? (i := 173) (by decide +kernel), List.mem_of_getElem? (i := 174) (by decide +kernel)⟩
theorem lw_p17 : lw_okq (⟨"java/lang/Throwable", "fillInStackTrace", "(I)Ljava/lang/Throwable;"⟩, 6) := ⟨⟨by decide +kernel, by decide +kernel⟩, List.mem_of_getElem? (i := 230) (by decide +kernel), List.mem_of_getElem? (i := 228) (by decide +kernel), List.mem_of_getElem? (i := 229) (by decide +kernel)⟩
theorem lw_p18 : lw_okq (⟨"SignCutterModel", "mostInRow", "()I"⟩, 17) := ⟨⟨by decide +kernel, by decide +kernel⟩, List.mem_of_getElem? (i := 263) (by decide +kernel), List.mem_of_getElem? (i := 334) (by decide +kernel), List.mem_of_getElem? (i := 335) (by decide +kernel)⟩
theorem lw_p19 : lw_okq (⟨"SignCutterModel", "inRow", "(I)I"⟩, 17) := ⟨⟨by decide +kernel, by decide +kernel⟩, List.mem_of_getElem? (i := 263) (by decide +kernel), List.mem_of_getElem? (i := 338) (by decide +kernel), List.mem_of_getElem? (i := 339) (by decide +kernel)⟩
theorem lw_p20 : lw_okq (⟨"SignCutterModel", "isDark", "(II)Z"⟩, 17) := ⟨⟨by decide +kernel, by decide +kernel⟩, List.mem_of_getElem? (i := 263) (by decide +kernel), List.mem_of_getElem? (i := 342) (by decide +kernel), List.mem_of_getElem? (i := 343) (by decide +kernel)⟩
theorem lw_p21 : lw_okq (⟨"SignCutterModel", "from", "()I"⟩, 17) := ⟨⟨by decide +kernel, by decide +kernel⟩, List.mem_of_getElem? (i := 263) (by decide +kernel), List.mem_of_getElem? (i := 346) (by decide +kernel), List.mem_of_getElem? (i := 347) (by decide +kernel)⟩
theorem lw_p22 : lw_okq (⟨"SignCutterModel", "hasDark", "(I)Z"⟩, 17) := ⟨⟨by decide +kernel, by decide +kernel⟩, List.mem_of_getElem? (i := 263) (by decide +kernel), List.mem_of_getElem? (i := 350) (by decide +kernel), List.mem_of_getElem? (i := 351) (by decide +kernel)⟩
theorem lw_p23 : lw_okq (⟨"SignCutterModel", "until", "()I"⟩, 17) := ⟨⟨by decide +kernel, by decide +kernel⟩, List.mem_of_getElem? (i := 263) (by decide +kernel), List.mem_of_getElem? (i := 354) (by decide +kernel), List.mem_of_getElem? (i := 355) (by decide +kernel)⟩
theorem lw_p24 : lw_okq (⟨"SignCutterModel", "fill", "(II)V"⟩, 17) := ⟨⟨by decide +kernel, by decide +kernel⟩, List.mem_of_getElem? (i := 263) (by decide +kernel), List.mem_of_getElem? (i := 358) (by decide +kernel), List.mem_of_getElem? (i := 359) (by decide +kernel)⟩
theorem lw_p25 : lw_okq (⟨"SignCutterModel", "look", "(II)V"⟩, 17) := ⟨⟨by decide +kernel, by decide +kernel⟩, List.mem_of_getElem? (i := 263) (by decide +kernel), List.mem_of_getElem? (i := 362) (by decide +kernel), List.mem_of_getElem? (i := 363) (by decide +kernel)⟩
theorem lw_p26 : lw_okq (⟨"SignCutterModel", "due", "()I"⟩, 17) := ⟨⟨by decide +kernel, by decide +kernel⟩, List.mem_of_getElem? (i := 263) (by decide +kernel), List.mem_of_getElem? (i := 366) (by decide +kernel), List.mem_of_getElem? (i := 367) (by decide +kernel)⟩
theorem lw_p27 : lw_okq (⟨"SignCutterModel", "baseline", "()I"⟩, 17) := ⟨⟨by decide +kernel, by decide +kernel⟩, List.mem_of_getElem? (i := 263) (by decide +kernel), List.mem_of_getElem? (i := 370) (by decide +kernel), List.mem_of_getElem? (i := 371) (by decide +kernel)⟩
theorem lw_p28 : lw_okq (⟨"SignCutterModel", "middle", "()I"⟩, 17) := ⟨⟨by decide +kernel, by decide +kernel⟩, List.mem_of_getElem? (i := 263) (by decide +kernel), List.mem_of_getElem? (i := 374) (by decide +kernel), List.mem_of_getElem? (i := 375) (by decide +kernel)⟩
theorem lw_p29 : lw_okq (⟨"SignCutterModel", "mayCut", "(I)Z"⟩, 17) := ⟨⟨by decide +kernel, by decide +kernel⟩, List.mem_of_getElem? (i := 263) (by decide +kernel), List.mem_of_getElem? (i := 378) (by decide +kernel), List.mem_of_getElem? (i := 379) (by decide +kernel)⟩
theorem lw_p30 : lw_okq (⟨"SignCutterModel", "touch", "(I)I"⟩, 17) := ⟨⟨by decide +kernel, by decide +kernel⟩, List.mem_of_getElem? (i := 263) (by decide +kernel), List.mem_of_getElem? (i := 382) (by decide +kernel), List.mem_of_getElem? (i := 383) (by decide +kernel)⟩
theorem lw_p31 : lw_okq (⟨"SignCutterModel", "sign", "(II)J"⟩, 17) := ⟨⟨by decide +kernel, by decide +kernel⟩, List.mem_of_getElem? (i := 263) (by decide +kernel), List.mem_of_getElem? (i := 386) (by decide +kernel), List.mem_of_getElem? (i := 387) (by decide +kernel)⟩
def lw_privs_2 : List (MethodName × Nat) := [(⟨"SignCutter", "lengthenTails", "(IIJ)V"⟩, 11), (⟨"java/lang/Throwable", "fillInStackTrace", "(I)Ljava/lang/Throwable;"⟩, 6), (⟨"SignCutterModel", "mostInRow", "()I"⟩, 17), (⟨"SignCutterModel", "inRow", "(I)I"⟩, 17), (⟨"SignCutterModel", "isDark", "(II)Z"⟩, 17), (⟨"SignCutterModel", "from", "()I"⟩, 17), (⟨"SignCutterModel", "hasDark", "(I)Z"⟩, 17), (⟨"SignCutterModel", "until", "()I"⟩, 17), (⟨"SignCutterModel", "fill", "(II)V"⟩, 17), (⟨"SignCutterModel", "look", "(II)V"⟩, 17), (⟨"SignCutterModel", "due", "()I"⟩, 17), (⟨"SignCutterModel", "baseline", "()I"⟩, 17), (⟨"SignCutterModel", "middle", "()I"⟩, 17), (⟨"SignCutterModel", "mayCut", "(I)Z"⟩, 17), (⟨"SignCutterModel", "touch", "(I)I"⟩, 17), (⟨"SignCutterModel", "sign", "(II)J"⟩, 17)]
theorem lw_r2 : ∀ q ∈ lw_privs_2, lw_okq q := List.forall_mem_cons.mpr ⟨lw_p16, List.forall_mem_cons.mpr ⟨lw_p17, List.forall_mem_cons.mpr ⟨lw_p18, List.forall_mem_cons.mpr ⟨lw_p19, List.forall_mem_cons.mpr ⟨lw_p20, List.forall_mem_cons.mpr ⟨lw_p21, List.forall_mem_cons.mpr ⟨lw_p22, List.forall_mem_cons.mpr ⟨lw_p23, List.forall_mem_cons.mpr ⟨lw_p24, List.forall_mem_cons.mpr ⟨lw_p25, List.forall_mem_cons.mpr ⟨lw_p26, List.forall_mem_cons.mpr ⟨lw_p27, List.forall_mem_cons.mpr ⟨lw_p28, List.forall_mem_cons.mpr ⟨lw_p29, List.forall_mem_cons.mpr ⟨lw_p30, List.forall_mem_cons.mpr ⟨lw_p31, fun _ h => absurd h List.not_mem_nil⟩⟩⟩⟩⟩⟩⟩⟩⟩⟩⟩⟩⟩⟩⟩⟩
theorem lw_p32 : lw_okq (⟨"SignCutterModel", "isBroken", "(III)Z"⟩, 17) := ⟨⟨by decide +kernel, by decide +kernel⟩, List.mem_of_getElem? (i := 263) (by decide +kernel), List.mem_of_getElem? (i := 392) (by decide +kernel), List.mem_of_getElem? (i := 393) (by decide +kernel)⟩
theorem lw_p33 : lw_okq (⟨"SignCutterModel", "keep", "(IJII)V"⟩, 17) := ⟨⟨by decide +kernel, by decide +kernel⟩, List.mem_of_getElem? (i := 263) (by decide +kernel), List.mem_of_getElem? (i := 397) (by decide +kernel), List.mem_of_getElem? (i := 398) (by decide +kernel)⟩
theorem lw_p34 : lw_okq (⟨"SignCutterModel", "columns", "(I)I"⟩, 17) := ⟨⟨by decide +kernel, by decide +kernel⟩, List.mem_of_getElem? (i := 263) (by decide +kernel), List.mem_of_getElem? (i := 422) (by decide +kernel), List.mem_of_getElem? (i := 423) (by decide +kernel)⟩
def lw_privs_3 : List (MethodName × Nat) := [(⟨"SignCutterModel", "isBroken", "(III)Z"⟩, 17), (⟨"SignCutterModel", "keep", "(IJII)V"⟩, 17), (⟨"SignCutterModel", "columns", "(I)I"⟩, 17)]
theorem lw_r3 : ∀ q ∈ lw_privs_3, lw_okq q := List.forall_mem_cons.mpr ⟨lw_p32, List.forall_mem_cons.mpr ⟨lw_p33, List.forall_mem_cons.mpr ⟨lw_p34, fun _ h => absurd h List.not_mem_nil⟩⟩⟩
def lw_privs : List (MethodName × Nat) := lw_privs_1 ++ (lw_privs_2 ++ (lw_privs_3))
def lw_tbl : List Cond := k2_sels lw_privs ++ tables_1
theorem lw_privs_ok : ∀ q ∈ lw_privs, lw_okq q := by
  show ∀ q ∈ lw_privs_1 ++ (lw_privs_2 ++ (lw_privs_3)), lw_okq q
  exact List.forall_mem_append.mpr ⟨lw_r1, List.forall_mem_append.mpr ⟨lw_r2, lw_r3⟩⟩
-- ===== end of PART A; then your names; then what follows =====
end
section
/-! ===== BEGIN words of one list among another's, by their places ===== -/
theorem goodIn_r {big : List Cond} (ws : List Cond) (ps : List Nat) (hp : ws = ps.filterMap (fun i => big[i]?)) (h : ws.all goodWord = true) : GoodIn big ws := by
  intro w hw
  have h1 := List.all_eq_true.mp h w hw
  rw [hp] at hw
  obtain ⟨i, -, hi⟩ := List.mem_filterMap.mp hw
  have hm : w ∈ big := by first | exact List.mem_of_getElem? hi | exact List.getElem?_mem hi
  exact ⟨hm, good_of_word h1⟩
theorem goodIn_app {big a b : List Cond} (ha : GoodIn big a) (hb : GoodIn big b) : GoodIn big (a ++ b) := fun w h => (List.mem_append.mp h).elim (ha w) (hb w)
theorem goodIn_ca {big a b : List Cond} {c : Cond} (ha : GoodIn big (c :: a)) (hb : GoodIn big b) : GoodIn big (c :: (a ++ b)) := fun w h => (List.mem_cons.mp h).elim (fun e => ha w (List.mem_cons.mpr (Or.inl e))) (fun h => (List.mem_append.mp h).elim (fun h => ha w (List.mem_cons.mpr (Or.inr h))) (hb w))
theorem goodIn_sub {big ws : List Cond} (hm : ∀ w ∈ ws, w ∈ big) (h : ws.all goodWord = true) : GoodIn big ws := fun w hw => ⟨hm w hw, good_of_word (List.all_eq_true.mp h w hw)⟩
/-! ===== END ===== -/

/-! ===== BEGIN printed: names, fields, word lists, decode rows ===== -/
def RX0 : String := "SignCutter"
def TX0 : u_T := fun k => match k with
  | 0 => ("SignCutter", "width", "I", true)
  | 1 => ("SignCutter", "height", "I", true)
  | 2 => ("SignCutter", "columns", "[J", true)
  | 3 => ("SignCutter", "rows", "[J", true)
  | 4 => ("SignCutter", "ends", "[J", true)
  | 5 => ("SignCutter", "endCosts", "[I", true)
  | 6 => ("SignCutter", "endCounts", "[I", true)
  | 7 => ("SignCutter", "foundFrom", "I", false)
  | 8 => ("SignCutter", "found", "I", false)
  | 9 => ("SignCutter", "tails", "[I", true)
  | _ => ("SignCutter", "longerTails", "[I", true)
def tyX0 : Nat → FieldType := fun k => match k with
  | 0 => .int
  | 1 => .int
  | 2 => .array .long
  | 3 => .array .long
  | 4 => .array .long
  | 5 => .array .int
  | 6 => .array .int
  | 7 => .int
  | 8 => .int
  | 9 => .array .int
  | _ => .array .int
abbrev wsX00 : List Cond := u_ws RX0 TX0 11
theorem nmX0 : ∀ a, a < 11 → ∀ b, b < 11 → a ≠ b → (TX0 a).2.1 ≠ (TX0 b).2.1 := by decide +kernel
theorem tyX0_ok : ∀ k, k < 11 → parseFieldDescriptor (TX0 k).2.2.1 = some (tyX0 k) := by decide +kernel
abbrev cX0_init : ByteArray := prog_1_method_1_code
def yX0_init : MethodName := ⟨RX0, "<init>", "(II)V"⟩
abbrev cX0_column : ByteArray := prog_1_method_2_code
def yX0_column : MethodName := ⟨RX0, "column", "(IIZ)V"⟩
abbrev cX0_cut : ByteArray := prog_1_method_3_code
def yX0_cut : MethodName := ⟨RX0, "cut", "(I)I"⟩
abbrev cX0_way : ByteArray := prog_1_method_4_code
def yX0_way : MethodName := ⟨RX0, "way", "(II)I"⟩
abbrev cX0_cost : ByteArray := prog_1_method_5_code
def yX0_cost : MethodName := ⟨RX0, "cost", "(I)J"⟩
abbrev cX0_signs : ByteArray := prog_1_method_6_code
def yX0_signs : MethodName := ⟨RX0, "signs", "(I)I"⟩
abbrev cX0_base : ByteArray := prog_1_method_7_code
def yX0_base : MethodName := ⟨RX0, "base", "(I)I"⟩
abbrev cX0_slant : ByteArray := prog_1_method_8_code
def yX0_slant : MethodName := ⟨RX0, "slant", "()I"⟩
abbrev cX0_plain : ByteArray := prog_1_method_9_code
def yX0_plain : MethodName := ⟨RX0, "plain", "(I)I"⟩
abbrev cX0_has : ByteArray := prog_1_method_10_code
def yX0_has : MethodName := ⟨RX0, "has", "(JI)Z"⟩
abbrev cX0_firstDarkColumn : ByteArray := prog_1_method_11_code
def yX0_firstDarkColumn : MethodName := ⟨RX0, "firstDarkColumn", "()I"⟩
abbrev cX0_lastDarkColumn : ByteArray := prog_1_method_12_code
def yX0_lastDarkColumn : MethodName := ⟨RX0, "lastDarkColumn", "()I"⟩
abbrev cX0_darkInRow : ByteArray := prog_1_method_13_code
def yX0_darkInRow : MethodName := ⟨RX0, "darkInRow", "(I)I"⟩
abbrev cX0_mostDarkInARow : ByteArray := prog_1_method_14_code
def yX0_mostDarkInARow : MethodName := ⟨RX0, "mostDarkInARow", "()I"⟩
abbrev cX0_firstStrongRow : ByteArray := prog_1_method_15_code
def yX0_firstStrongRow : MethodName := ⟨RX0, "firstStrongRow", "()I"⟩
abbrev cX0_lastStrongRow : ByteArray := prog_1_method_16_code
def yX0_lastStrongRow : MethodName := ⟨RX0, "lastStrongRow", "()I"⟩
abbrev cX0_dueWidth : ByteArray := prog_1_method_17_code
def yX0_dueWidth : MethodName := ⟨RX0, "dueWidth", "()I"⟩
abbrev cX0_shearedColumns : ByteArray := prog_1_method_18_code
def yX0_shearedColumns : MethodName := ⟨RX0, "shearedColumns", "(I)I"⟩
abbrev cX0_touch : ByteArray := prog_1_method_19_code
def yX0_touch : MethodName := ⟨RX0, "touch", "(I)I"⟩
abbrev cX0_placesToCut : ByteArray := prog_1_method_20_code
def yX0_placesToCut : MethodName := ⟨RX0, "placesToCut", "(II)J"⟩
abbrev cX0_lengthenTails : ByteArray := prog_1_method_21_code
def yX0_lengthenTails : MethodName := ⟨RX0, "lengthenTails", "(IIJ)V"⟩
abbrev cX0_isFound : ByteArray := prog_1_method_22_code
def yX0_isFound : MethodName := ⟨RX0, "isFound", "(I)Z"⟩
abbrev cX0_shelf : ByteArray := prog_1_method_23_code
def yX0_shelf : MethodName := ⟨RX0, "shelf", "(I)I"⟩
abbrev cX0_shelveUntil : ByteArray := prog_1_method_24_code
def yX0_shelveUntil : MethodName := ⟨RX0, "shelveUntil", "(I)V"⟩
abbrev cX0_shelveEnds : ByteArray := prog_1_method_25_code
def yX0_shelveEnds : MethodName := ⟨RX0, "shelveEnds", "(III)V"⟩
abbrev cX0_shelveEndsAt : ByteArray := prog_1_method_26_code
def yX0_shelveEndsAt : MethodName := ⟨RX0, "shelveEndsAt", "(IIJII)V"⟩
abbrev cX0_signCost : ByteArray := prog_1_method_27_code
def yX0_signCost : MethodName := ⟨RX0, "signCost", "(IIII)I"⟩
abbrev cX0_goOnFrom : ByteArray := prog_1_method_28_code
def yX0_goOnFrom : MethodName := ⟨RX0, "goOnFrom", "(IIII)V"⟩
abbrev cX0_shelve : ByteArray := prog_1_method_29_code
def yX0_shelve : MethodName := ⟨RX0, "shelve", "(IIJI)Z"⟩
def RX1 : String := "SignCutterModel"
def TX1 : u_T := fun k => match k with
  | 0 => ("SignCutterModel", "thrown", "I", false)
  | 1 => ("SignCutterModel", "width", "I", true)
  | 2 => ("SignCutterModel", "height", "I", true)
  | 3 => ("SignCutterModel", "dark", "[Z", true)
  | 4 => ("SignCutterModel", "many", "[I", true)
  | 5 => ("SignCutterModel", "costs", "[J", true)
  | 6 => ("SignCutterModel", "nexts", "[I", true)
  | 7 => ("SignCutterModel", "goes", "[I", true)
  | 8 => ("SignCutterModel", "found", "I", false)
  | 9 => ("SignCutterModel", "prices", "[J", true)
  | 10 => ("SignCutterModel", "lengths", "[I", true)
  | 11 => ("SignCutterModel", "ways", "[I", true)
  | 12 => ("SignCutterModel", "counts", "[J", true)
  | 13 => ("SignCutterModel", "before", "[J", true)
  | 14 => ("SignCutterModel", "signs", "[J", true)
  | 15 => ("SignCutterModel", "may", "[Z", true)
  | _ => ("SignCutterModel", "wide", "I", false)
def tyX1 : Nat → FieldType := fun k => match k with
  | 0 => .int
  | 1 => .int
  | 2 => .int
  | 3 => .array .boolean
  | 4 => .array .int
  | 5 => .array .long
  | 6 => .array .int
  | 7 => .array .int
  | 8 => .int
  | 9 => .array .long
  | 10 => .array .int
  | 11 => .array .int
  | 12 => .array .long
  | 13 => .array .long
  | 14 => .array .long
  | 15 => .array .boolean
  | _ => .int
abbrev wsX10 : List Cond := u_ws RX1 TX1 17
theorem nmX1 : ∀ a, a < 17 → ∀ b, b < 17 → a ≠ b → (TX1 a).2.1 ≠ (TX1 b).2.1 := by decide +kernel
theorem tyX1_ok : ∀ k, k < 17 → parseFieldDescriptor (TX1 k).2.2.1 = some (tyX1 k) := by decide +kernel
abbrev cX1_init : ByteArray := prog_3_method_1_code
def yX1_init : MethodName := ⟨RX1, "<init>", "(II)V"⟩
abbrev cX1_thrown : ByteArray := prog_3_method_2_code
def yX1_thrown : MethodName := ⟨RX1, "thrown", "()I"⟩
abbrev cX1_column : ByteArray := prog_3_method_3_code
def yX1_column : MethodName := ⟨RX1, "column", "(IIZ)V"⟩
abbrev cX1_isDark : ByteArray := prog_3_method_4_code
def yX1_isDark : MethodName := ⟨RX1, "isDark", "(II)Z"⟩
abbrev cX1_hasDark : ByteArray := prog_3_method_5_code
def yX1_hasDark : MethodName := ⟨RX1, "hasDark", "(I)Z"⟩
abbrev cX1_inRow : ByteArray := prog_3_method_6_code
def yX1_inRow : MethodName := ⟨RX1, "inRow", "(I)I"⟩
abbrev cX1_mostInRow : ByteArray := prog_3_method_7_code
def yX1_mostInRow : MethodName := ⟨RX1, "mostInRow", "()I"⟩
abbrev cX1_middle : ByteArray := prog_3_method_8_code
def yX1_middle : MethodName := ⟨RX1, "middle", "()I"⟩
abbrev cX1_baseline : ByteArray := prog_3_method_9_code
def yX1_baseline : MethodName := ⟨RX1, "baseline", "()I"⟩
abbrev cX1_from : ByteArray := prog_3_method_10_code
def yX1_from : MethodName := ⟨RX1, "from", "()I"⟩
abbrev cX1_until : ByteArray := prog_3_method_11_code
def yX1_until : MethodName := ⟨RX1, "until", "()I"⟩
abbrev cX1_due : ByteArray := prog_3_method_12_code
def yX1_due : MethodName := ⟨RX1, "due", "()I"⟩
abbrev cX1_touch : ByteArray := prog_3_method_13_code
def yX1_touch : MethodName := ⟨RX1, "touch", "(I)I"⟩
abbrev cX1_mayCut : ByteArray := prog_3_method_14_code
def yX1_mayCut : MethodName := ⟨RX1, "mayCut", "(I)Z"⟩
abbrev cX1_sign : ByteArray := prog_3_method_15_code
def yX1_sign : MethodName := ⟨RX1, "sign", "(II)J"⟩
abbrev cX1_isBroken : ByteArray := prog_3_method_16_code
def yX1_isBroken : MethodName := ⟨RX1, "isBroken", "(III)Z"⟩
abbrev cX1_keep : ByteArray := prog_3_method_17_code
def yX1_keep : MethodName := ⟨RX1, "keep", "(IJII)V"⟩
abbrev cX1_look : ByteArray := prog_3_method_18_code
def yX1_look : MethodName := ⟨RX1, "look", "(II)V"⟩
abbrev cX1_fill : ByteArray := prog_3_method_19_code
def yX1_fill : MethodName := ⟨RX1, "fill", "(II)V"⟩
abbrev cX1_cut : ByteArray := prog_3_method_20_code
def yX1_cut : MethodName := ⟨RX1, "cut", "(I)I"⟩
abbrev cX1_way : ByteArray := prog_3_method_21_code
def yX1_way : MethodName := ⟨RX1, "way", "(II)I"⟩
abbrev cX1_cost : ByteArray := prog_3_method_22_code
def yX1_cost : MethodName := ⟨RX1, "cost", "(I)J"⟩
abbrev cX1_signs : ByteArray := prog_3_method_23_code
def yX1_signs : MethodName := ⟨RX1, "signs", "(I)I"⟩
abbrev cX1_base : ByteArray := prog_3_method_24_code
def yX1_base : MethodName := ⟨RX1, "base", "(I)I"⟩
abbrev cX1_columns : ByteArray := prog_3_method_25_code
def yX1_columns : MethodName := ⟨RX1, "columns", "(I)I"⟩
abbrev cX1_slant : ByteArray := prog_3_method_26_code
def yX1_slant : MethodName := ⟨RX1, "slant", "()I"⟩
abbrev cX1_plain : ByteArray := prog_3_method_27_code
def yX1_plain : MethodName := ⟨RX1, "plain", "(I)I"⟩
def RJx00060 : String := "java/lang/ArrayIndexOutOfBoundsException"
def TJx00060 : u_T := fun k => match k with
  | 0 => ("java/lang/Throwable", "cause", "Ljava/lang/Throwable;", false)
  | 1 => ("java/lang/Throwable", "stackTrace", "[Ljava/lang/StackTraceElement;", false)
  | 2 => ("java/lang/Throwable", "suppressedExceptions", "Ljava/util/List;", false)
  | 3 => ("java/lang/Throwable", "detailMessage", "Ljava/lang/String;", false)
  | 4 => ("java/lang/Throwable", "backtrace", "Ljava/lang/Object;", false)
  | _ => ("java/lang/Throwable", "depth", "I", false)
def tyJx00060 : Nat → FieldType := fun k => match k with
  | 0 => .object "java/lang/Throwable"
  | 1 => .array (.object "java/lang/StackTraceElement")
  | 2 => .object "java/util/List"
  | 3 => .object "java/lang/String"
  | 4 => .object "java/lang/Object"
  | _ => .int
abbrev wsJx000600 : List Cond := u_ws RJx00060 TJx00060 6
theorem nmJx00060 : ∀ a, a < 6 → ∀ b, b < 6 → a ≠ b → (TJx00060 a).2.1 ≠ (TJx00060 b).2.1 := by decide +kernel
theorem tyJx00060_ok : ∀ k, k < 6 → parseFieldDescriptor (TJx00060 k).2.2.1 = some (tyJx00060 k) := by decide +kernel
abbrev cJx00060_init_a7421 : ByteArray := prog_4_method_2_code
def yJx00060_init_a7421 : MethodName := ⟨RJx00060, "<init>", "(Ljava/lang/String;)V"⟩
def RJ13 : String := "java/lang/Long"
def TJ13 : u_T := fun k => match k with
  | _ => ("", "", "", false)
def tyJ13 : Nat → FieldType := fun k => match k with
  | _ => .int
abbrev wsJ130 : List Cond := u_ws RJ13 TJ13 0
theorem nmJ13 : ∀ a, a < 0 → ∀ b, b < 0 → a ≠ b → (TJ13 a).2.1 ≠ (TJ13 b).2.1 := by decide +kernel
theorem tyJ13_ok : ∀ k, k < 0 → parseFieldDescriptor (TJ13 k).2.2.1 = some (tyJ13 k) := by decide +kernel
abbrev cJ13_bitCount_95d88 : ByteArray := prog_7_method_50_code
def yJ13_bitCount_95d88 : MethodName := ⟨RJ13, "bitCount", "(J)I"⟩
def RJ9 : String := "java/lang/Math"
def TJ9 : u_T := fun k => match k with
  | _ => ("", "", "", false)
def tyJ9 : Nat → FieldType := fun k => match k with
  | _ => .int
abbrev wsJ90 : List Cond := u_ws RJ9 TJ9 0
theorem nmJ9 : ∀ a, a < 0 → ∀ b, b < 0 → a ≠ b → (TJ9 a).2.1 ≠ (TJ9 b).2.1 := by decide +kernel
theorem tyJ9_ok : ∀ k, k < 0 → parseFieldDescriptor (TJ9 k).2.2.1 = some (tyJ9 k) := by decide +kernel
abbrev cJ9_floorDiv_7cf53 : ByteArray := prog_8_method_47_code
def yJ9_floorDiv_7cf53 : MethodName := ⟨RJ9, "floorDiv", "(II)I"⟩
abbrev cJ9_max_7cf53 : ByteArray := prog_8_method_65_code
def yJ9_max_7cf53 : MethodName := ⟨RJ9, "max", "(II)I"⟩
abbrev cJ9_min_7cf53 : ByteArray := prog_8_method_69_code
def yJ9_min_7cf53 : MethodName := ⟨RJ9, "min", "(II)I"⟩
def RJ0 : String := "java/lang/String"
def TJ0 : u_T := fun k => match k with
  | _ => ("", "", "", false)
def tyJ0 : Nat → FieldType := fun k => match k with
  | _ => .int
abbrev wsJ00 : List Cond := u_ws RJ0 TJ0 0
theorem nmJ0 : ∀ a, a < 0 → ∀ b, b < 0 → a ≠ b → (TJ0 a).2.1 ≠ (TJ0 b).2.1 := by decide +kernel
theorem tyJ0_ok : ∀ k, k < 0 → parseFieldDescriptor (TJ0 k).2.2.1 = some (tyJ0 k) := by decide +kernel
def RJ10 : String := "java/lang/System"
def TJ10 : u_T := fun k => match k with
  | _ => ("", "", "", false)
def tyJ10 : Nat → FieldType := fun k => match k with
  | _ => .int
abbrev wsJ100 : List Cond := u_ws RJ10 TJ10 0
theorem nmJ10 : ∀ a, a < 0 → ∀ b, b < 0 → a ≠ b → (TJ10 a).2.1 ≠ (TJ10 b).2.1 := by decide +kernel
theorem tyJ10_ok : ∀ k, k < 0 → parseFieldDescriptor (TJ10 k).2.2.1 = some (tyJ10 k) := by decide +kernel
def RL : String := "SignCutterLaw"
abbrev cL_cell : ByteArray := method_2_code
def yL_cell : MethodName := ⟨RL, "cell", "([II)I"⟩
abbrev cL_column : ByteArray := method_3_code
def yL_column : MethodName := ⟨RL, "column", "(LSignCutter;IIZ)I"⟩
abbrev cL_law : ByteArray := code
def yL_law : MethodName := ⟨RL, "law", "([I)Z"⟩
def wsX0_init : List Cond := .code yX0_init cX0_init 4 none :: ([.methodLink RX0 1 objectInit, .instanceMethod objectInit, .code objectInit ⟨#[0xb1]⟩ 1 none, .methodLink RX0 9 Lib.Math.min.name, .static Lib.Math.min.name, .initialized "java/lang/Math", .code Lib.Math.min.name Lib.Math.min.code 2 (some .int), .methodLink RX0 15 Lib.Math.max.name, .static Lib.Math.max.name, .code Lib.Math.max.name Lib.Math.max.code 2 (some .int), .fieldLink RX0 18 "SignCutter" "width" "I", .fieldLink RX0 22 "SignCutter" "height" "I", .arrayClass .long, .fieldLink RX0 25 "SignCutter" "columns" "[J", .fieldLink RX0 29 "SignCutter" "rows" "[J", .fieldLink RX0 32 "SignCutter" "ends" "[J", .arrayClass .int, .fieldLink RX0 35 "SignCutter" "endCosts" "[I", .fieldLink RX0 39 "SignCutter" "endCounts" "[I", .fieldLink RX0 42 "SignCutter" "tails" "[I", .fieldLink RX0 45 "SignCutter" "longerTails" "[I"] ++ wsX00)
def wsX0_column : List Cond := .code yX0_column cX0_column 4 none :: ([.fieldLink RX0 18 "SignCutter" "width" "I", .fieldLink RX0 22 "SignCutter" "height" "I", .classLink RX0 48 RJx00060, .instantiable RJx00060 6, .initialized RJx00060, .fieldLink RX0 25 "SignCutter" "columns" "[J", .fieldLink RX0 29 "SignCutter" "rows" "[J", .constantLong RX0 55 (-1)] ++ wsX00 ++ wsJx000600)
def wsX0_firstDarkColumn : List Cond := .code yX0_firstDarkColumn cX0_firstDarkColumn 2 (some .int) :: ([.fieldLink RX0 18 "SignCutter" "width" "I", .fieldLink RX0 25 "SignCutter" "columns" "[J"] ++ wsX00)
def wsX0_lastDarkColumn : List Cond := .code yX0_lastDarkColumn cX0_lastDarkColumn 2 (some .int) :: ([.fieldLink RX0 18 "SignCutter" "width" "I", .fieldLink RX0 25 "SignCutter" "columns" "[J"] ++ wsX00)
def wsX0_shelf : List Cond := .code yX0_shelf cX0_shelf 1 (some .int) :: ([])
def wsX0_shelveUntil : List Cond := .code yX0_shelveUntil cX0_shelveUntil 2 none :: ([.fieldLink RX0 32 "SignCutter" "ends" "[J", .fieldLink RX0 35 "SignCutter" "endCosts" "[I", .fieldLink RX0 39 "SignCutter" "endCounts" "[I", .methodLink RX0 82 yX0_shelf, .static yX0_shelf, .initialized RX0, .code yX0_shelf cX0_shelf 1 (some .int)] ++ wsX00)
def wsJ13_bitCount_95d88 : List Cond := .code yJ13_bitCount_95d88 cJ13_bitCount_95d88 2 (some .int) :: ([.constantLong RJ13 314 (6148914691236517205), .constantLong RJ13 316 (3689348814741910323), .constantLong RJ13 318 (1085102592571150095)])
def wsX0_darkInRow : List Cond := .code yX0_darkInRow cX0_darkInRow 2 (some .int) :: ([.fieldLink RX0 29 "SignCutter" "rows" "[J", .methodLink RX0 90 yJ13_bitCount_95d88, .static yJ13_bitCount_95d88, .initialized RJ13, .code yJ13_bitCount_95d88 cJ13_bitCount_95d88 2 (some .int), .constantLong RJ13 314 (6148914691236517205), .constantLong RJ13 316 (3689348814741910323), .constantLong RJ13 318 (1085102592571150095)] ++ wsX00)
def wsX0_mostDarkInARow : List Cond := .code yX0_mostDarkInARow cX0_mostDarkInARow 3 (some .int) :: ([.fieldLink RX0 22 "SignCutter" "height" "I", .methodLink RX0 15 Lib.Math.max.name, .static Lib.Math.max.name, .initialized "java/lang/Math", .code Lib.Math.max.name Lib.Math.max.code 2 (some .int), .methodLink RX0 116 yX0_darkInRow, .instanceMethod yX0_darkInRow, .selects RX0 yX0_darkInRow yX0_darkInRow, .initialized RX0, .code yX0_darkInRow cX0_darkInRow 2 (some .int), .fieldLink RX0 29 "SignCutter" "rows" "[J", .methodLink RX0 90 yJ13_bitCount_95d88, .static yJ13_bitCount_95d88, .initialized RJ13, .code yJ13_bitCount_95d88 cJ13_bitCount_95d88 2 (some .int), .constantLong RJ13 314 (6148914691236517205), .constantLong RJ13 316 (3689348814741910323), .constantLong RJ13 318 (1085102592571150095)] ++ wsX00)
def wsX0_lastStrongRow : List Cond := .code yX0_lastStrongRow cX0_lastStrongRow 3 (some .int) :: ([.fieldLink RX0 22 "SignCutter" "height" "I", .methodLink RX0 119 yX0_mostDarkInARow, .instanceMethod yX0_mostDarkInARow, .selects RX0 yX0_mostDarkInARow yX0_mostDarkInARow, .initialized RX0, .code yX0_mostDarkInARow cX0_mostDarkInARow 3 (some .int), .methodLink RX0 15 Lib.Math.max.name, .static Lib.Math.max.name, .initialized "java/lang/Math", .code Lib.Math.max.name Lib.Math.max.code 2 (some .int), .methodLink RX0 116 yX0_darkInRow, .instanceMethod yX0_darkInRow, .selects RX0 yX0_darkInRow yX0_darkInRow, .code yX0_darkInRow cX0_darkInRow 2 (some .int), .fieldLink RX0 29 "SignCutter" "rows" "[J", .methodLink RX0 90 yJ13_bitCount_95d88, .static yJ13_bitCount_95d88, .initialized RJ13, .code yJ13_bitCount_95d88 cJ13_bitCount_95d88 2 (some .int), .constantLong RJ13 314 (6148914691236517205), .constantLong RJ13 316 (3689348814741910323), .constantLong RJ13 318 (1085102592571150095)] ++ wsX00)
def wsX0_firstStrongRow : List Cond := .code yX0_firstStrongRow cX0_firstStrongRow 3 (some .int) :: ([.fieldLink RX0 22 "SignCutter" "height" "I", .methodLink RX0 119 yX0_mostDarkInARow, .instanceMethod yX0_mostDarkInARow, .selects RX0 yX0_mostDarkInARow yX0_mostDarkInARow, .initialized RX0, .code yX0_mostDarkInARow cX0_mostDarkInARow 3 (some .int), .methodLink RX0 15 Lib.Math.max.name, .static Lib.Math.max.name, .initialized "java/lang/Math", .code Lib.Math.max.name Lib.Math.max.code 2 (some .int), .methodLink RX0 116 yX0_darkInRow, .instanceMethod yX0_darkInRow, .selects RX0 yX0_darkInRow yX0_darkInRow, .code yX0_darkInRow cX0_darkInRow 2 (some .int), .fieldLink RX0 29 "SignCutter" "rows" "[J", .methodLink RX0 90 yJ13_bitCount_95d88, .static yJ13_bitCount_95d88, .initialized RJ13, .code yJ13_bitCount_95d88 cJ13_bitCount_95d88 2 (some .int), .constantLong RJ13 314 (6148914691236517205), .constantLong RJ13 316 (3689348814741910323), .constantLong RJ13 318 (1085102592571150095)] ++ wsX00)
def wsX0_dueWidth_r1 : List Cond := [Cond.methodLink RX0 99 yX0_lastStrongRow, Cond.instanceMethod yX0_lastStrongRow, Cond.selects RX0 yX0_lastStrongRow yX0_lastStrongRow, Cond.initialized RX0, Cond.code yX0_lastStrongRow cX0_lastStrongRow 3 (some .int), Cond.fieldLink RX0 22 "SignCutter" "height" "I", Cond.methodLink RX0 119 yX0_mostDarkInARow, Cond.instanceMethod yX0_mostDarkInARow, Cond.selects RX0 yX0_mostDarkInARow yX0_mostDarkInARow, Cond.code yX0_mostDarkInARow cX0_mostDarkInARow 3 (some .int), Cond.methodLink RX0 15 Lib.Math.max.name, Cond.static Lib.Math.max.name, Cond.initialized "java/lang/Math", Cond.code Lib.Math.max.name Lib.Math.max.code 2 (some .int), Cond.methodLink RX0 116 yX0_darkInRow, Cond.instanceMethod yX0_darkInRow, Cond.selects RX0 yX0_darkInRow yX0_darkInRow, Cond.code yX0_darkInRow cX0_darkInRow 2 (some .int), Cond.fieldLink RX0 29 "SignCutter" "rows" "[J", Cond.methodLink RX0 90 yJ13_bitCount_95d88, Cond.static yJ13_bitCount_95d88, Cond.initialized RJ13, Cond.code yJ13_bitCount_95d88 cJ13_bitCount_95d88 2 (some .int), Cond.constantLong RJ13 314 (6148914691236517205)]
def wsX0_dueWidth_r2 : List Cond := [Cond.constantLong RJ13 316 (3689348814741910323), Cond.constantLong RJ13 318 (1085102592571150095), Cond.methodLink RX0 96 yX0_firstStrongRow, Cond.instanceMethod yX0_firstStrongRow, Cond.selects RX0 yX0_firstStrongRow yX0_firstStrongRow, Cond.code yX0_firstStrongRow cX0_firstStrongRow 3 (some .int)]
def wsX0_dueWidth : List Cond := .code yX0_dueWidth cX0_dueWidth 1 (some .int) :: ((wsX0_dueWidth_r1 ++ wsX0_dueWidth_r2) ++ wsX00)
def wsX0_touch : List Cond := .code yX0_touch cX0_touch 2 (some .int) :: ([.fieldLink RX0 25 "SignCutter" "columns" "[J", .methodLink RX0 90 yJ13_bitCount_95d88, .static yJ13_bitCount_95d88, .initialized RJ13, .code yJ13_bitCount_95d88 cJ13_bitCount_95d88 2 (some .int), .constantLong RJ13 314 (6148914691236517205), .constantLong RJ13 316 (3689348814741910323), .constantLong RJ13 318 (1085102592571150095)] ++ wsX00)
def wsX0_placesToCut : List Cond := .code yX0_placesToCut cX0_placesToCut 7 (some .long) :: ([.fieldLink RX0 25 "SignCutter" "columns" "[J", .methodLink RX0 125 yX0_touch, .instanceMethod yX0_touch, .selects RX0 yX0_touch yX0_touch, .initialized RX0, .code yX0_touch cX0_touch 2 (some .int), .methodLink RX0 90 yJ13_bitCount_95d88, .static yJ13_bitCount_95d88, .initialized RJ13, .code yJ13_bitCount_95d88 cJ13_bitCount_95d88 2 (some .int), .constantLong RJ13 314 (6148914691236517205), .constantLong RJ13 316 (3689348814741910323), .constantLong RJ13 318 (1085102592571150095)] ++ wsX00)
def wsX0_has : List Cond := .code yX0_has cX0_has 3 (some .boolean) :: ([])
def wsX0_signCost : List Cond := .code yX0_signCost cX0_signCost 6 (some .int) :: ([])
def wsX0_shelve : List Cond := .code yX0_shelve cX0_shelve 9 (some .boolean) :: ([.fieldLink RX0 39 "SignCutter" "endCounts" "[I", .fieldLink RX0 35 "SignCutter" "endCosts" "[I", .methodLink RX0 9 Lib.Math.min.name, .static Lib.Math.min.name, .initialized "java/lang/Math", .code Lib.Math.min.name Lib.Math.min.code 2 (some .int), .fieldLink RX0 32 "SignCutter" "ends" "[J", .methodLink RX0 82 yX0_shelf, .static yX0_shelf, .initialized RX0, .code yX0_shelf cX0_shelf 1 (some .int)] ++ wsX00)
def wsX0_goOnFrom : List Cond := .code yX0_goOnFrom cX0_goOnFrom 8 none :: ([.fieldLink RX0 39 "SignCutter" "endCounts" "[I", .fieldLink RX0 35 "SignCutter" "endCosts" "[I", .fieldLink RX0 32 "SignCutter" "ends" "[J", .methodLink RX0 82 yX0_shelf, .static yX0_shelf, .initialized RX0, .code yX0_shelf cX0_shelf 1 (some .int), .methodLink RX0 147 yX0_shelve, .instanceMethod yX0_shelve, .selects RX0 yX0_shelve yX0_shelve, .code yX0_shelve cX0_shelve 9 (some .boolean), .methodLink RX0 9 Lib.Math.min.name, .static Lib.Math.min.name, .initialized "java/lang/Math", .code Lib.Math.min.name Lib.Math.min.code 2 (some .int)] ++ wsX00)
def wsX0_shelveEndsAt_r1 : List Cond := [Cond.fieldLink RX0 39 "SignCutter" "endCounts" "[I", Cond.fieldLink RX0 25 "SignCutter" "columns" "[J", Cond.constantLong RX0 55 (-1), Cond.methodLink RX0 86 yX0_has, Cond.static yX0_has, Cond.initialized RX0, Cond.code yX0_has cX0_has 3 (some .boolean), Cond.methodLink RX0 90 yJ13_bitCount_95d88, Cond.static yJ13_bitCount_95d88, Cond.initialized RJ13, Cond.code yJ13_bitCount_95d88 cJ13_bitCount_95d88 2 (some .int), Cond.constantLong RJ13 314 (6148914691236517205), Cond.constantLong RJ13 316 (3689348814741910323), Cond.constantLong RJ13 318 (1085102592571150095), Cond.methodLink RX0 139 yX0_signCost, Cond.static yX0_signCost, Cond.code yX0_signCost cX0_signCost 6 (some .int), Cond.methodLink RX0 125 yX0_touch, Cond.instanceMethod yX0_touch, Cond.selects RX0 yX0_touch yX0_touch, Cond.code yX0_touch cX0_touch 2 (some .int), Cond.methodLink RX0 143 yX0_goOnFrom, Cond.instanceMethod yX0_goOnFrom, Cond.selects RX0 yX0_goOnFrom yX0_goOnFrom]
def wsX0_shelveEndsAt_r2 : List Cond := [Cond.code yX0_goOnFrom cX0_goOnFrom 8 none, Cond.fieldLink RX0 35 "SignCutter" "endCosts" "[I", Cond.fieldLink RX0 32 "SignCutter" "ends" "[J", Cond.methodLink RX0 82 yX0_shelf, Cond.static yX0_shelf, Cond.code yX0_shelf cX0_shelf 1 (some .int), Cond.methodLink RX0 147 yX0_shelve, Cond.instanceMethod yX0_shelve, Cond.selects RX0 yX0_shelve yX0_shelve, Cond.code yX0_shelve cX0_shelve 9 (some .boolean), Cond.methodLink RX0 9 Lib.Math.min.name, Cond.static Lib.Math.min.name, Cond.initialized "java/lang/Math", Cond.code Lib.Math.min.name Lib.Math.min.code 2 (some .int)]
def wsX0_shelveEndsAt : List Cond := .code yX0_shelveEndsAt cX0_shelveEndsAt 22 none :: ((wsX0_shelveEndsAt_r1 ++ wsX0_shelveEndsAt_r2) ++ wsX00)
def wsX0_shelveEnds_r1 : List Cond := [Cond.methodLink RX0 102 yX0_dueWidth, Cond.instanceMethod yX0_dueWidth, Cond.selects RX0 yX0_dueWidth yX0_dueWidth, Cond.initialized RX0, Cond.code yX0_dueWidth cX0_dueWidth 1 (some .int), Cond.methodLink RX0 99 yX0_lastStrongRow, Cond.instanceMethod yX0_lastStrongRow, Cond.selects RX0 yX0_lastStrongRow yX0_lastStrongRow, Cond.code yX0_lastStrongRow cX0_lastStrongRow 3 (some .int), Cond.fieldLink RX0 22 "SignCutter" "height" "I", Cond.methodLink RX0 119 yX0_mostDarkInARow, Cond.instanceMethod yX0_mostDarkInARow, Cond.selects RX0 yX0_mostDarkInARow yX0_mostDarkInARow, Cond.code yX0_mostDarkInARow cX0_mostDarkInARow 3 (some .int), Cond.methodLink RX0 15 Lib.Math.max.name, Cond.static Lib.Math.max.name, Cond.initialized "java/lang/Math", Cond.code Lib.Math.max.name Lib.Math.max.code 2 (some .int), Cond.methodLink RX0 116 yX0_darkInRow, Cond.instanceMethod yX0_darkInRow, Cond.selects RX0 yX0_darkInRow yX0_darkInRow, Cond.code yX0_darkInRow cX0_darkInRow 2 (some .int), Cond.fieldLink RX0 29 "SignCutter" "rows" "[J", Cond.methodLink RX0 90 yJ13_bitCount_95d88]
def wsX0_shelveEnds_r2 : List Cond := [Cond.static yJ13_bitCount_95d88, Cond.initialized RJ13, Cond.code yJ13_bitCount_95d88 cJ13_bitCount_95d88 2 (some .int), Cond.constantLong RJ13 314 (6148914691236517205), Cond.constantLong RJ13 316 (3689348814741910323), Cond.constantLong RJ13 318 (1085102592571150095), Cond.methodLink RX0 96 yX0_firstStrongRow, Cond.instanceMethod yX0_firstStrongRow, Cond.selects RX0 yX0_firstStrongRow yX0_firstStrongRow, Cond.code yX0_firstStrongRow cX0_firstStrongRow 3 (some .int), Cond.methodLink RX0 105 yX0_placesToCut, Cond.instanceMethod yX0_placesToCut, Cond.selects RX0 yX0_placesToCut yX0_placesToCut, Cond.code yX0_placesToCut cX0_placesToCut 7 (some .long), Cond.fieldLink RX0 25 "SignCutter" "columns" "[J", Cond.methodLink RX0 125 yX0_touch, Cond.instanceMethod yX0_touch, Cond.selects RX0 yX0_touch yX0_touch, Cond.code yX0_touch cX0_touch 2 (some .int), Cond.methodLink RX0 86 yX0_has, Cond.static yX0_has, Cond.code yX0_has cX0_has 3 (some .boolean), Cond.methodLink RX0 135 yX0_shelveEndsAt, Cond.instanceMethod yX0_shelveEndsAt]
def wsX0_shelveEnds_r3 : List Cond := [Cond.selects RX0 yX0_shelveEndsAt yX0_shelveEndsAt, Cond.code yX0_shelveEndsAt cX0_shelveEndsAt 22 none, Cond.fieldLink RX0 39 "SignCutter" "endCounts" "[I", Cond.constantLong RX0 55 (-1), Cond.methodLink RX0 139 yX0_signCost, Cond.static yX0_signCost, Cond.code yX0_signCost cX0_signCost 6 (some .int), Cond.methodLink RX0 143 yX0_goOnFrom, Cond.instanceMethod yX0_goOnFrom, Cond.selects RX0 yX0_goOnFrom yX0_goOnFrom, Cond.code yX0_goOnFrom cX0_goOnFrom 8 none, Cond.fieldLink RX0 35 "SignCutter" "endCosts" "[I", Cond.fieldLink RX0 32 "SignCutter" "ends" "[J", Cond.methodLink RX0 82 yX0_shelf, Cond.static yX0_shelf, Cond.code yX0_shelf cX0_shelf 1 (some .int), Cond.methodLink RX0 147 yX0_shelve, Cond.instanceMethod yX0_shelve, Cond.selects RX0 yX0_shelve yX0_shelve, Cond.code yX0_shelve cX0_shelve 9 (some .boolean), Cond.methodLink RX0 9 Lib.Math.min.name, Cond.static Lib.Math.min.name, Cond.code Lib.Math.min.name Lib.Math.min.code 2 (some .int)]
def wsX0_shelveEnds : List Cond := .code yX0_shelveEnds cX0_shelveEnds 10 none :: ((wsX0_shelveEnds_r1 ++ (wsX0_shelveEnds_r2 ++ wsX0_shelveEnds_r3)) ++ wsX00)
def wsX0_cut_r1 : List Cond := [Cond.fieldLink RX0 61 "SignCutter" "found" "I", Cond.fieldLink RX0 75 "SignCutter" "foundFrom" "I", Cond.fieldLink RX0 39 "SignCutter" "endCounts" "[I", Cond.methodLink RX0 57 yX0_firstDarkColumn, Cond.instanceMethod yX0_firstDarkColumn, Cond.selects RX0 yX0_firstDarkColumn yX0_firstDarkColumn, Cond.initialized RX0, Cond.code yX0_firstDarkColumn cX0_firstDarkColumn 2 (some .int), Cond.fieldLink RX0 18 "SignCutter" "width" "I", Cond.fieldLink RX0 25 "SignCutter" "columns" "[J", Cond.methodLink RX0 64 yX0_lastDarkColumn, Cond.instanceMethod yX0_lastDarkColumn, Cond.selects RX0 yX0_lastDarkColumn yX0_lastDarkColumn, Cond.code yX0_lastDarkColumn cX0_lastDarkColumn 2 (some .int), Cond.methodLink RX0 67 yX0_shelveUntil, Cond.instanceMethod yX0_shelveUntil, Cond.selects RX0 yX0_shelveUntil yX0_shelveUntil, Cond.code yX0_shelveUntil cX0_shelveUntil 2 none, Cond.fieldLink RX0 32 "SignCutter" "ends" "[J", Cond.fieldLink RX0 35 "SignCutter" "endCosts" "[I", Cond.methodLink RX0 82 yX0_shelf, Cond.static yX0_shelf, Cond.code yX0_shelf cX0_shelf 1 (some .int), Cond.methodLink RX0 71 yX0_shelveEnds]
def wsX0_cut_r2 : List Cond := [Cond.instanceMethod yX0_shelveEnds, Cond.selects RX0 yX0_shelveEnds yX0_shelveEnds, Cond.code yX0_shelveEnds cX0_shelveEnds 10 none, Cond.methodLink RX0 102 yX0_dueWidth, Cond.instanceMethod yX0_dueWidth, Cond.selects RX0 yX0_dueWidth yX0_dueWidth, Cond.code yX0_dueWidth cX0_dueWidth 1 (some .int), Cond.methodLink RX0 99 yX0_lastStrongRow, Cond.instanceMethod yX0_lastStrongRow, Cond.selects RX0 yX0_lastStrongRow yX0_lastStrongRow, Cond.code yX0_lastStrongRow cX0_lastStrongRow 3 (some .int), Cond.fieldLink RX0 22 "SignCutter" "height" "I", Cond.methodLink RX0 119 yX0_mostDarkInARow, Cond.instanceMethod yX0_mostDarkInARow, Cond.selects RX0 yX0_mostDarkInARow yX0_mostDarkInARow, Cond.code yX0_mostDarkInARow cX0_mostDarkInARow 3 (some .int), Cond.methodLink RX0 15 Lib.Math.max.name, Cond.static Lib.Math.max.name, Cond.initialized "java/lang/Math", Cond.code Lib.Math.max.name Lib.Math.max.code 2 (some .int), Cond.methodLink RX0 116 yX0_darkInRow, Cond.instanceMethod yX0_darkInRow, Cond.selects RX0 yX0_darkInRow yX0_darkInRow, Cond.code yX0_darkInRow cX0_darkInRow 2 (some .int)]
def wsX0_cut_r3 : List Cond := [Cond.fieldLink RX0 29 "SignCutter" "rows" "[J", Cond.methodLink RX0 90 yJ13_bitCount_95d88, Cond.static yJ13_bitCount_95d88, Cond.initialized RJ13, Cond.code yJ13_bitCount_95d88 cJ13_bitCount_95d88 2 (some .int), Cond.constantLong RJ13 314 (6148914691236517205), Cond.constantLong RJ13 316 (3689348814741910323), Cond.constantLong RJ13 318 (1085102592571150095), Cond.methodLink RX0 96 yX0_firstStrongRow, Cond.instanceMethod yX0_firstStrongRow, Cond.selects RX0 yX0_firstStrongRow yX0_firstStrongRow, Cond.code yX0_firstStrongRow cX0_firstStrongRow 3 (some .int), Cond.methodLink RX0 105 yX0_placesToCut, Cond.instanceMethod yX0_placesToCut, Cond.selects RX0 yX0_placesToCut yX0_placesToCut, Cond.code yX0_placesToCut cX0_placesToCut 7 (some .long), Cond.methodLink RX0 125 yX0_touch, Cond.instanceMethod yX0_touch, Cond.selects RX0 yX0_touch yX0_touch, Cond.code yX0_touch cX0_touch 2 (some .int), Cond.methodLink RX0 86 yX0_has, Cond.static yX0_has, Cond.code yX0_has cX0_has 3 (some .boolean), Cond.methodLink RX0 135 yX0_shelveEndsAt]
def wsX0_cut_r4 : List Cond := [Cond.instanceMethod yX0_shelveEndsAt, Cond.selects RX0 yX0_shelveEndsAt yX0_shelveEndsAt, Cond.code yX0_shelveEndsAt cX0_shelveEndsAt 22 none, Cond.constantLong RX0 55 (-1), Cond.methodLink RX0 139 yX0_signCost, Cond.static yX0_signCost, Cond.code yX0_signCost cX0_signCost 6 (some .int), Cond.methodLink RX0 143 yX0_goOnFrom, Cond.instanceMethod yX0_goOnFrom, Cond.selects RX0 yX0_goOnFrom yX0_goOnFrom, Cond.code yX0_goOnFrom cX0_goOnFrom 8 none, Cond.methodLink RX0 147 yX0_shelve, Cond.instanceMethod yX0_shelve, Cond.selects RX0 yX0_shelve yX0_shelve, Cond.code yX0_shelve cX0_shelve 9 (some .boolean), Cond.methodLink RX0 9 Lib.Math.min.name, Cond.static Lib.Math.min.name, Cond.code Lib.Math.min.name Lib.Math.min.code 2 (some .int)]
def wsX0_cut : List Cond := .code yX0_cut cX0_cut 4 (some .int) :: ((wsX0_cut_r1 ++ (wsX0_cut_r2 ++ (wsX0_cut_r3 ++ wsX0_cut_r4))) ++ wsX00)
def wsX0_isFound : List Cond := .code yX0_isFound cX0_isFound 2 (some .boolean) :: ([.fieldLink RX0 61 "SignCutter" "found" "I"] ++ wsX00)
def wsX0_way : List Cond := .code yX0_way cX0_way 7 (some .int) :: ([.fieldLink RX0 32 "SignCutter" "ends" "[J", .fieldLink RX0 75 "SignCutter" "foundFrom" "I", .fieldLink RX0 18 "SignCutter" "width" "I", .methodLink RX0 78 yX0_isFound, .instanceMethod yX0_isFound, .selects RX0 yX0_isFound yX0_isFound, .initialized RX0, .code yX0_isFound cX0_isFound 2 (some .boolean), .fieldLink RX0 61 "SignCutter" "found" "I", .methodLink RX0 82 yX0_shelf, .static yX0_shelf, .code yX0_shelf cX0_shelf 1 (some .int), .methodLink RX0 86 yX0_has, .static yX0_has, .code yX0_has cX0_has 3 (some .boolean)] ++ wsX00)
def wsX0_cost : List Cond := .code yX0_cost cX0_cost 2 (some .long) :: ([.fieldLink RX0 35 "SignCutter" "endCosts" "[I", .fieldLink RX0 75 "SignCutter" "foundFrom" "I", .constantLong RX0 55 (-1), .methodLink RX0 78 yX0_isFound, .instanceMethod yX0_isFound, .selects RX0 yX0_isFound yX0_isFound, .initialized RX0, .code yX0_isFound cX0_isFound 2 (some .boolean), .fieldLink RX0 61 "SignCutter" "found" "I", .methodLink RX0 82 yX0_shelf, .static yX0_shelf, .code yX0_shelf cX0_shelf 1 (some .int)] ++ wsX00)
def wsX0_signs : List Cond := .code yX0_signs cX0_signs 2 (some .int) :: ([.fieldLink RX0 32 "SignCutter" "ends" "[J", .fieldLink RX0 75 "SignCutter" "foundFrom" "I", .methodLink RX0 78 yX0_isFound, .instanceMethod yX0_isFound, .selects RX0 yX0_isFound yX0_isFound, .initialized RX0, .code yX0_isFound cX0_isFound 2 (some .boolean), .fieldLink RX0 61 "SignCutter" "found" "I", .methodLink RX0 82 yX0_shelf, .static yX0_shelf, .code yX0_shelf cX0_shelf 1 (some .int), .methodLink RX0 90 yJ13_bitCount_95d88, .static yJ13_bitCount_95d88, .initialized RJ13, .code yJ13_bitCount_95d88 cJ13_bitCount_95d88 2 (some .int), .constantLong RJ13 314 (6148914691236517205), .constantLong RJ13 316 (3689348814741910323), .constantLong RJ13 318 (1085102592571150095)] ++ wsX00)
def wsX0_base_r1 : List Cond := [Cond.methodLink RX0 57 yX0_firstDarkColumn, Cond.instanceMethod yX0_firstDarkColumn, Cond.selects RX0 yX0_firstDarkColumn yX0_firstDarkColumn, Cond.initialized RX0, Cond.code yX0_firstDarkColumn cX0_firstDarkColumn 2 (some .int), Cond.fieldLink RX0 18 "SignCutter" "width" "I", Cond.fieldLink RX0 25 "SignCutter" "columns" "[J", Cond.methodLink RX0 96 yX0_firstStrongRow, Cond.instanceMethod yX0_firstStrongRow, Cond.selects RX0 yX0_firstStrongRow yX0_firstStrongRow, Cond.code yX0_firstStrongRow cX0_firstStrongRow 3 (some .int), Cond.fieldLink RX0 22 "SignCutter" "height" "I", Cond.methodLink RX0 119 yX0_mostDarkInARow, Cond.instanceMethod yX0_mostDarkInARow, Cond.selects RX0 yX0_mostDarkInARow yX0_mostDarkInARow, Cond.code yX0_mostDarkInARow cX0_mostDarkInARow 3 (some .int), Cond.methodLink RX0 15 Lib.Math.max.name, Cond.static Lib.Math.max.name, Cond.initialized "java/lang/Math", Cond.code Lib.Math.max.name Lib.Math.max.code 2 (some .int), Cond.methodLink RX0 116 yX0_darkInRow, Cond.instanceMethod yX0_darkInRow, Cond.selects RX0 yX0_darkInRow yX0_darkInRow, Cond.code yX0_darkInRow cX0_darkInRow 2 (some .int)]
def wsX0_base_r2 : List Cond := [Cond.fieldLink RX0 29 "SignCutter" "rows" "[J", Cond.methodLink RX0 90 yJ13_bitCount_95d88, Cond.static yJ13_bitCount_95d88, Cond.initialized RJ13, Cond.code yJ13_bitCount_95d88 cJ13_bitCount_95d88 2 (some .int), Cond.constantLong RJ13 314 (6148914691236517205), Cond.constantLong RJ13 316 (3689348814741910323), Cond.constantLong RJ13 318 (1085102592571150095), Cond.methodLink RX0 99 yX0_lastStrongRow, Cond.instanceMethod yX0_lastStrongRow, Cond.selects RX0 yX0_lastStrongRow yX0_lastStrongRow, Cond.code yX0_lastStrongRow cX0_lastStrongRow 3 (some .int), Cond.methodLink RX0 102 yX0_dueWidth, Cond.instanceMethod yX0_dueWidth, Cond.selects RX0 yX0_dueWidth yX0_dueWidth, Cond.code yX0_dueWidth cX0_dueWidth 1 (some .int), Cond.methodLink RX0 64 yX0_lastDarkColumn, Cond.instanceMethod yX0_lastDarkColumn, Cond.selects RX0 yX0_lastDarkColumn yX0_lastDarkColumn, Cond.code yX0_lastDarkColumn cX0_lastDarkColumn 2 (some .int), Cond.methodLink RX0 105 yX0_placesToCut, Cond.instanceMethod yX0_placesToCut, Cond.selects RX0 yX0_placesToCut yX0_placesToCut, Cond.code yX0_placesToCut cX0_placesToCut 7 (some .long)]
def wsX0_base_r3 : List Cond := [Cond.methodLink RX0 125 yX0_touch, Cond.instanceMethod yX0_touch, Cond.selects RX0 yX0_touch yX0_touch, Cond.code yX0_touch cX0_touch 2 (some .int)]
def wsX0_base : List Cond := .code yX0_base cX0_base 2 (some .int) :: ((wsX0_base_r1 ++ (wsX0_base_r2 ++ wsX0_base_r3)) ++ wsX00)
def wsJ9_floorDiv_7cf53 : List Cond := .code yJ9_floorDiv_7cf53 cJ9_floorDiv_7cf53 3 (some .int) :: ([])
def wsX0_shearedColumns : List Cond := .code yX0_shearedColumns cX0_shearedColumns 8 (some .int) :: ([.fieldLink RX0 22 "SignCutter" "height" "I", .fieldLink RX0 29 "SignCutter" "rows" "[J", .methodLink RX0 122 yJ9_floorDiv_7cf53, .static yJ9_floorDiv_7cf53, .initialized RJ9, .code yJ9_floorDiv_7cf53 cJ9_floorDiv_7cf53 3 (some .int), .methodLink RX0 90 yJ13_bitCount_95d88, .static yJ13_bitCount_95d88, .initialized RJ13, .code yJ13_bitCount_95d88 cJ13_bitCount_95d88 2 (some .int), .constantLong RJ13 314 (6148914691236517205), .constantLong RJ13 316 (3689348814741910323), .constantLong RJ13 318 (1085102592571150095)] ++ wsX00)
def wsX0_slant : List Cond := .code yX0_slant cX0_slant 6 (some .int) :: ([.methodLink RX0 109 yX0_shearedColumns, .instanceMethod yX0_shearedColumns, .selects RX0 yX0_shearedColumns yX0_shearedColumns, .initialized RX0, .code yX0_shearedColumns cX0_shearedColumns 8 (some .int), .fieldLink RX0 22 "SignCutter" "height" "I", .fieldLink RX0 29 "SignCutter" "rows" "[J", .methodLink RX0 122 yJ9_floorDiv_7cf53, .static yJ9_floorDiv_7cf53, .initialized RJ9, .code yJ9_floorDiv_7cf53 cJ9_floorDiv_7cf53 3 (some .int), .methodLink RX0 90 yJ13_bitCount_95d88, .static yJ13_bitCount_95d88, .initialized RJ13, .code yJ13_bitCount_95d88 cJ13_bitCount_95d88 2 (some .int), .constantLong RJ13 314 (6148914691236517205), .constantLong RJ13 316 (3689348814741910323), .constantLong RJ13 318 (1085102592571150095)] ++ wsX00)
def wsX0_lengthenTails : List Cond := .code yX0_lengthenTails cX0_lengthenTails 8 none :: ([.fieldLink RX0 45 "SignCutter" "longerTails" "[I", .fieldLink RX0 25 "SignCutter" "columns" "[J", .fieldLink RX0 42 "SignCutter" "tails" "[I", .constant RX0 128 (1000000000), .methodLink RX0 9 Lib.Math.min.name, .static Lib.Math.min.name, .initialized "java/lang/Math", .code Lib.Math.min.name Lib.Math.min.code 2 (some .int), .methodLink RX0 129 arraycopyName, .native arraycopyName, .static arraycopyName, .initialized "java/lang/System", .methodLink RX0 86 yX0_has, .static yX0_has, .initialized RX0, .code yX0_has cX0_has 3 (some .boolean)] ++ wsX00)
def wsX0_plain_r1 : List Cond := [Cond.fieldLink RX0 18 "SignCutter" "width" "I", Cond.fieldLink RX0 42 "SignCutter" "tails" "[I", Cond.methodLink RX0 57 yX0_firstDarkColumn, Cond.instanceMethod yX0_firstDarkColumn, Cond.selects RX0 yX0_firstDarkColumn yX0_firstDarkColumn, Cond.initialized RX0, Cond.code yX0_firstDarkColumn cX0_firstDarkColumn 2 (some .int), Cond.fieldLink RX0 25 "SignCutter" "columns" "[J", Cond.methodLink RX0 64 yX0_lastDarkColumn, Cond.instanceMethod yX0_lastDarkColumn, Cond.selects RX0 yX0_lastDarkColumn yX0_lastDarkColumn, Cond.code yX0_lastDarkColumn cX0_lastDarkColumn 2 (some .int), Cond.methodLink RX0 105 yX0_placesToCut, Cond.instanceMethod yX0_placesToCut, Cond.selects RX0 yX0_placesToCut yX0_placesToCut, Cond.code yX0_placesToCut cX0_placesToCut 7 (some .long), Cond.methodLink RX0 125 yX0_touch, Cond.instanceMethod yX0_touch, Cond.selects RX0 yX0_touch yX0_touch, Cond.code yX0_touch cX0_touch 2 (some .int), Cond.methodLink RX0 90 yJ13_bitCount_95d88, Cond.static yJ13_bitCount_95d88, Cond.initialized RJ13, Cond.code yJ13_bitCount_95d88 cJ13_bitCount_95d88 2 (some .int)]
def wsX0_plain_r2 : List Cond := [Cond.constantLong RJ13 314 (6148914691236517205), Cond.constantLong RJ13 316 (3689348814741910323), Cond.constantLong RJ13 318 (1085102592571150095), Cond.methodLink RX0 112 yX0_lengthenTails, Cond.instanceMethod yX0_lengthenTails, Cond.selects RX0 yX0_lengthenTails yX0_lengthenTails, Cond.code yX0_lengthenTails cX0_lengthenTails 8 none, Cond.fieldLink RX0 45 "SignCutter" "longerTails" "[I", Cond.constant RX0 128 (1000000000), Cond.methodLink RX0 9 Lib.Math.min.name, Cond.static Lib.Math.min.name, Cond.initialized "java/lang/Math", Cond.code Lib.Math.min.name Lib.Math.min.code 2 (some .int), Cond.methodLink RX0 129 arraycopyName, Cond.native arraycopyName, Cond.static arraycopyName, Cond.initialized "java/lang/System", Cond.methodLink RX0 86 yX0_has, Cond.static yX0_has, Cond.code yX0_has cX0_has 3 (some .boolean)]
def wsX0_plain : List Cond := .code yX0_plain cX0_plain 7 (some .int) :: ((wsX0_plain_r1 ++ wsX0_plain_r2) ++ wsX00)
def wsX1_init : List Cond := .code yX1_init cX1_init 3 none :: ([.methodLink RX1 1 objectInit, .instanceMethod objectInit, .code objectInit ⟨#[0xb1]⟩ 1 none, .arrayClass .boolean, .fieldLink RX1 7 "SignCutterModel" "dark" "[Z", .arrayClass .int, .fieldLink RX1 13 "SignCutterModel" "many" "[I", .arrayClass .long, .fieldLink RX1 17 "SignCutterModel" "costs" "[J", .fieldLink RX1 21 "SignCutterModel" "nexts" "[I", .fieldLink RX1 24 "SignCutterModel" "goes" "[I", .fieldLink RX1 27 "SignCutterModel" "prices" "[J", .fieldLink RX1 30 "SignCutterModel" "lengths" "[I", .fieldLink RX1 33 "SignCutterModel" "ways" "[I", .fieldLink RX1 36 "SignCutterModel" "counts" "[J", .fieldLink RX1 39 "SignCutterModel" "before" "[J", .fieldLink RX1 42 "SignCutterModel" "signs" "[J", .fieldLink RX1 45 "SignCutterModel" "may" "[Z", .fieldLink RX1 48 "SignCutterModel" "width" "I", .fieldLink RX1 52 "SignCutterModel" "height" "I"] ++ wsX10)
def wsX1_thrown : List Cond := .code yX1_thrown cX1_thrown 1 (some .int) :: ([.fieldLink RX1 55 "SignCutterModel" "thrown" "I"] ++ wsX10)
def wsX1_column : List Cond := .code yX1_column cX1_column 4 none :: ([.fieldLink RX1 48 "SignCutterModel" "width" "I", .fieldLink RX1 52 "SignCutterModel" "height" "I", .fieldLink RX1 55 "SignCutterModel" "thrown" "I", .fieldLink RX1 7 "SignCutterModel" "dark" "[Z"] ++ wsX10)
def wsX1_isDark : List Cond := .code yX1_isDark cX1_isDark 3 (some .boolean) :: ([.fieldLink RX1 7 "SignCutterModel" "dark" "[Z"] ++ wsX10)
def wsX1_hasDark : List Cond := .code yX1_hasDark cX1_hasDark 4 (some .boolean) :: ([.fieldLink RX1 52 "SignCutterModel" "height" "I", .fieldLink RX1 48 "SignCutterModel" "width" "I", .methodLink RX1 58 yX1_isDark, .instanceMethod yX1_isDark, .selects RX1 yX1_isDark yX1_isDark, .initialized RX1, .code yX1_isDark cX1_isDark 3 (some .boolean), .fieldLink RX1 7 "SignCutterModel" "dark" "[Z"] ++ wsX10)
def wsX1_inRow : List Cond := .code yX1_inRow cX1_inRow 4 (some .int) :: ([.fieldLink RX1 48 "SignCutterModel" "width" "I", .methodLink RX1 58 yX1_isDark, .instanceMethod yX1_isDark, .selects RX1 yX1_isDark yX1_isDark, .initialized RX1, .code yX1_isDark cX1_isDark 3 (some .boolean), .fieldLink RX1 7 "SignCutterModel" "dark" "[Z"] ++ wsX10)
def wsX1_mostInRow : List Cond := .code yX1_mostInRow cX1_mostInRow 3 (some .int) :: ([.fieldLink RX1 52 "SignCutterModel" "height" "I", .methodLink RX1 62 yX1_inRow, .instanceMethod yX1_inRow, .selects RX1 yX1_inRow yX1_inRow, .initialized RX1, .code yX1_inRow cX1_inRow 4 (some .int), .fieldLink RX1 48 "SignCutterModel" "width" "I", .methodLink RX1 58 yX1_isDark, .instanceMethod yX1_isDark, .selects RX1 yX1_isDark yX1_isDark, .code yX1_isDark cX1_isDark 3 (some .boolean), .fieldLink RX1 7 "SignCutterModel" "dark" "[Z"] ++ wsX10)
def wsX1_middle : List Cond := .code yX1_middle cX1_middle 3 (some .int) :: ([.methodLink RX1 66 yX1_mostInRow, .instanceMethod yX1_mostInRow, .selects RX1 yX1_mostInRow yX1_mostInRow, .initialized RX1, .code yX1_mostInRow cX1_mostInRow 3 (some .int), .fieldLink RX1 52 "SignCutterModel" "height" "I", .methodLink RX1 62 yX1_inRow, .instanceMethod yX1_inRow, .selects RX1 yX1_inRow yX1_inRow, .code yX1_inRow cX1_inRow 4 (some .int), .fieldLink RX1 48 "SignCutterModel" "width" "I", .methodLink RX1 58 yX1_isDark, .instanceMethod yX1_isDark, .selects RX1 yX1_isDark yX1_isDark, .code yX1_isDark cX1_isDark 3 (some .boolean), .fieldLink RX1 7 "SignCutterModel" "dark" "[Z"] ++ wsX10)
def wsX1_baseline : List Cond := .code yX1_baseline cX1_baseline 3 (some .int) :: ([.fieldLink RX1 52 "SignCutterModel" "height" "I", .methodLink RX1 66 yX1_mostInRow, .instanceMethod yX1_mostInRow, .selects RX1 yX1_mostInRow yX1_mostInRow, .initialized RX1, .code yX1_mostInRow cX1_mostInRow 3 (some .int), .methodLink RX1 62 yX1_inRow, .instanceMethod yX1_inRow, .selects RX1 yX1_inRow yX1_inRow, .code yX1_inRow cX1_inRow 4 (some .int), .fieldLink RX1 48 "SignCutterModel" "width" "I", .methodLink RX1 58 yX1_isDark, .instanceMethod yX1_isDark, .selects RX1 yX1_isDark yX1_isDark, .code yX1_isDark cX1_isDark 3 (some .boolean), .fieldLink RX1 7 "SignCutterModel" "dark" "[Z"] ++ wsX10)
def wsX1_from : List Cond := .code yX1_from cX1_from 2 (some .int) :: ([.methodLink RX1 70 yX1_hasDark, .instanceMethod yX1_hasDark, .selects RX1 yX1_hasDark yX1_hasDark, .initialized RX1, .code yX1_hasDark cX1_hasDark 4 (some .boolean), .fieldLink RX1 52 "SignCutterModel" "height" "I", .fieldLink RX1 48 "SignCutterModel" "width" "I", .methodLink RX1 58 yX1_isDark, .instanceMethod yX1_isDark, .selects RX1 yX1_isDark yX1_isDark, .code yX1_isDark cX1_isDark 3 (some .boolean), .fieldLink RX1 7 "SignCutterModel" "dark" "[Z"] ++ wsX10)
def wsX1_until : List Cond := .code yX1_until cX1_until 2 (some .int) :: ([.fieldLink RX1 48 "SignCutterModel" "width" "I", .methodLink RX1 70 yX1_hasDark, .instanceMethod yX1_hasDark, .selects RX1 yX1_hasDark yX1_hasDark, .initialized RX1, .code yX1_hasDark cX1_hasDark 4 (some .boolean), .fieldLink RX1 52 "SignCutterModel" "height" "I", .methodLink RX1 58 yX1_isDark, .instanceMethod yX1_isDark, .selects RX1 yX1_isDark yX1_isDark, .code yX1_isDark cX1_isDark 3 (some .boolean), .fieldLink RX1 7 "SignCutterModel" "dark" "[Z"] ++ wsX10)
def wsX1_due : List Cond := .code yX1_due cX1_due 1 (some .int) :: ([.methodLink RX1 74 yX1_baseline, .instanceMethod yX1_baseline, .selects RX1 yX1_baseline yX1_baseline, .initialized RX1, .code yX1_baseline cX1_baseline 3 (some .int), .fieldLink RX1 52 "SignCutterModel" "height" "I", .methodLink RX1 66 yX1_mostInRow, .instanceMethod yX1_mostInRow, .selects RX1 yX1_mostInRow yX1_mostInRow, .code yX1_mostInRow cX1_mostInRow 3 (some .int), .methodLink RX1 62 yX1_inRow, .instanceMethod yX1_inRow, .selects RX1 yX1_inRow yX1_inRow, .code yX1_inRow cX1_inRow 4 (some .int), .fieldLink RX1 48 "SignCutterModel" "width" "I", .methodLink RX1 58 yX1_isDark, .instanceMethod yX1_isDark, .selects RX1 yX1_isDark yX1_isDark, .code yX1_isDark cX1_isDark 3 (some .boolean), .fieldLink RX1 7 "SignCutterModel" "dark" "[Z", .methodLink RX1 77 yX1_middle, .instanceMethod yX1_middle, .selects RX1 yX1_middle yX1_middle, .code yX1_middle cX1_middle 3 (some .int)] ++ wsX10)
def wsX1_touch : List Cond := .code yX1_touch cX1_touch 4 (some .int) :: ([.fieldLink RX1 52 "SignCutterModel" "height" "I", .methodLink RX1 58 yX1_isDark, .instanceMethod yX1_isDark, .selects RX1 yX1_isDark yX1_isDark, .initialized RX1, .code yX1_isDark cX1_isDark 3 (some .boolean), .fieldLink RX1 7 "SignCutterModel" "dark" "[Z"] ++ wsX10)
def wsX1_mayCut : List Cond := .code yX1_mayCut cX1_mayCut 2 (some .boolean) :: ([.methodLink RX1 80 yX1_touch, .instanceMethod yX1_touch, .selects RX1 yX1_touch yX1_touch, .initialized RX1, .code yX1_touch cX1_touch 4 (some .int), .fieldLink RX1 52 "SignCutterModel" "height" "I", .methodLink RX1 58 yX1_isDark, .instanceMethod yX1_isDark, .selects RX1 yX1_isDark yX1_isDark, .code yX1_isDark cX1_isDark 3 (some .boolean), .fieldLink RX1 7 "SignCutterModel" "dark" "[Z", .methodLink RX1 70 yX1_hasDark, .instanceMethod yX1_hasDark, .selects RX1 yX1_hasDark yX1_hasDark, .code yX1_hasDark cX1_hasDark 4 (some .boolean), .fieldLink RX1 48 "SignCutterModel" "width" "I"] ++ wsX10)
def wsX1_isBroken : List Cond := .code yX1_isBroken cX1_isBroken 8 (some .boolean) :: ([.methodLink RX1 58 yX1_isDark, .instanceMethod yX1_isDark, .selects RX1 yX1_isDark yX1_isDark, .initialized RX1, .code yX1_isDark cX1_isDark 3 (some .boolean), .fieldLink RX1 7 "SignCutterModel" "dark" "[Z"] ++ wsX10)
def wsX1_sign : List Cond := .code yX1_sign cX1_sign 10 (some .long) :: ([.constantLong RX1 83 (-1), .fieldLink RX1 85 "SignCutterModel" "wide" "I", .constantLong RX1 88 (5), .fieldLink RX1 52 "SignCutterModel" "height" "I", .constantLong RX1 94 (2), .methodLink RX1 70 yX1_hasDark, .instanceMethod yX1_hasDark, .selects RX1 yX1_hasDark yX1_hasDark, .initialized RX1, .code yX1_hasDark cX1_hasDark 4 (some .boolean), .fieldLink RX1 48 "SignCutterModel" "width" "I", .methodLink RX1 58 yX1_isDark, .instanceMethod yX1_isDark, .selects RX1 yX1_isDark yX1_isDark, .code yX1_isDark cX1_isDark 3 (some .boolean), .fieldLink RX1 7 "SignCutterModel" "dark" "[Z", .methodLink RX1 90 yX1_isBroken, .instanceMethod yX1_isBroken, .selects RX1 yX1_isBroken yX1_isBroken, .code yX1_isBroken cX1_isBroken 8 (some .boolean)] ++ wsX10)
def wsX1_keep : List Cond := .code yX1_keep cX1_keep 8 none :: ([.fieldLink RX1 13 "SignCutterModel" "many" "[I", .fieldLink RX1 17 "SignCutterModel" "costs" "[J", .fieldLink RX1 21 "SignCutterModel" "nexts" "[I", .fieldLink RX1 24 "SignCutterModel" "goes" "[I"] ++ wsX10)
def wsX1_look_r1 : List Cond := [Cond.fieldLink RX1 85 "SignCutterModel" "wide" "I", Cond.fieldLink RX1 45 "SignCutterModel" "may" "[Z", Cond.fieldLink RX1 42 "SignCutterModel" "signs" "[J", Cond.constantLong RX1 83 (-1), Cond.methodLink RX1 96 yX1_due, Cond.instanceMethod yX1_due, Cond.selects RX1 yX1_due yX1_due, Cond.initialized RX1, Cond.code yX1_due cX1_due 1 (some .int), Cond.methodLink RX1 74 yX1_baseline, Cond.instanceMethod yX1_baseline, Cond.selects RX1 yX1_baseline yX1_baseline, Cond.code yX1_baseline cX1_baseline 3 (some .int), Cond.fieldLink RX1 52 "SignCutterModel" "height" "I", Cond.methodLink RX1 66 yX1_mostInRow, Cond.instanceMethod yX1_mostInRow, Cond.selects RX1 yX1_mostInRow yX1_mostInRow, Cond.code yX1_mostInRow cX1_mostInRow 3 (some .int), Cond.methodLink RX1 62 yX1_inRow, Cond.instanceMethod yX1_inRow, Cond.selects RX1 yX1_inRow yX1_inRow, Cond.code yX1_inRow cX1_inRow 4 (some .int), Cond.fieldLink RX1 48 "SignCutterModel" "width" "I", Cond.methodLink RX1 58 yX1_isDark]
def wsX1_look_r2 : List Cond := [Cond.instanceMethod yX1_isDark, Cond.selects RX1 yX1_isDark yX1_isDark, Cond.code yX1_isDark cX1_isDark 3 (some .boolean), Cond.fieldLink RX1 7 "SignCutterModel" "dark" "[Z", Cond.methodLink RX1 77 yX1_middle, Cond.instanceMethod yX1_middle, Cond.selects RX1 yX1_middle yX1_middle, Cond.code yX1_middle cX1_middle 3 (some .int), Cond.methodLink RX1 99 yX1_mayCut, Cond.instanceMethod yX1_mayCut, Cond.selects RX1 yX1_mayCut yX1_mayCut, Cond.code yX1_mayCut cX1_mayCut 2 (some .boolean), Cond.methodLink RX1 80 yX1_touch, Cond.instanceMethod yX1_touch, Cond.selects RX1 yX1_touch yX1_touch, Cond.code yX1_touch cX1_touch 4 (some .int), Cond.methodLink RX1 70 yX1_hasDark, Cond.instanceMethod yX1_hasDark, Cond.selects RX1 yX1_hasDark yX1_hasDark, Cond.code yX1_hasDark cX1_hasDark 4 (some .boolean), Cond.methodLink RX1 102 yX1_sign, Cond.instanceMethod yX1_sign, Cond.selects RX1 yX1_sign yX1_sign, Cond.code yX1_sign cX1_sign 10 (some .long)]
def wsX1_look_r3 : List Cond := [Cond.constantLong RX1 88 (5), Cond.constantLong RX1 94 (2), Cond.methodLink RX1 90 yX1_isBroken, Cond.instanceMethod yX1_isBroken, Cond.selects RX1 yX1_isBroken yX1_isBroken, Cond.code yX1_isBroken cX1_isBroken 8 (some .boolean)]
def wsX1_look : List Cond := .code yX1_look cX1_look 5 none :: ((wsX1_look_r1 ++ (wsX1_look_r2 ++ wsX1_look_r3)) ++ wsX10)
def wsX1_fill_r1 : List Cond := [Cond.fieldLink RX1 13 "SignCutterModel" "many" "[I", Cond.fieldLink RX1 45 "SignCutterModel" "may" "[Z", Cond.fieldLink RX1 42 "SignCutterModel" "signs" "[J", Cond.constantLong RX1 114 (10), Cond.fieldLink RX1 17 "SignCutterModel" "costs" "[J", Cond.methodLink RX1 106 yX1_look, Cond.instanceMethod yX1_look, Cond.selects RX1 yX1_look yX1_look, Cond.initialized RX1, Cond.code yX1_look cX1_look 5 none, Cond.fieldLink RX1 85 "SignCutterModel" "wide" "I", Cond.constantLong RX1 83 (-1), Cond.methodLink RX1 96 yX1_due, Cond.instanceMethod yX1_due, Cond.selects RX1 yX1_due yX1_due, Cond.code yX1_due cX1_due 1 (some .int), Cond.methodLink RX1 74 yX1_baseline, Cond.instanceMethod yX1_baseline, Cond.selects RX1 yX1_baseline yX1_baseline, Cond.code yX1_baseline cX1_baseline 3 (some .int), Cond.fieldLink RX1 52 "SignCutterModel" "height" "I", Cond.methodLink RX1 66 yX1_mostInRow, Cond.instanceMethod yX1_mostInRow, Cond.selects RX1 yX1_mostInRow yX1_mostInRow]
def wsX1_fill_r2 : List Cond := [Cond.code yX1_mostInRow cX1_mostInRow 3 (some .int), Cond.methodLink RX1 62 yX1_inRow, Cond.instanceMethod yX1_inRow, Cond.selects RX1 yX1_inRow yX1_inRow, Cond.code yX1_inRow cX1_inRow 4 (some .int), Cond.fieldLink RX1 48 "SignCutterModel" "width" "I", Cond.methodLink RX1 58 yX1_isDark, Cond.instanceMethod yX1_isDark, Cond.selects RX1 yX1_isDark yX1_isDark, Cond.code yX1_isDark cX1_isDark 3 (some .boolean), Cond.fieldLink RX1 7 "SignCutterModel" "dark" "[Z", Cond.methodLink RX1 77 yX1_middle, Cond.instanceMethod yX1_middle, Cond.selects RX1 yX1_middle yX1_middle, Cond.code yX1_middle cX1_middle 3 (some .int), Cond.methodLink RX1 99 yX1_mayCut, Cond.instanceMethod yX1_mayCut, Cond.selects RX1 yX1_mayCut yX1_mayCut, Cond.code yX1_mayCut cX1_mayCut 2 (some .boolean), Cond.methodLink RX1 80 yX1_touch, Cond.instanceMethod yX1_touch, Cond.selects RX1 yX1_touch yX1_touch, Cond.code yX1_touch cX1_touch 4 (some .int), Cond.methodLink RX1 70 yX1_hasDark]
def wsX1_fill_r3 : List Cond := [Cond.instanceMethod yX1_hasDark, Cond.selects RX1 yX1_hasDark yX1_hasDark, Cond.code yX1_hasDark cX1_hasDark 4 (some .boolean), Cond.methodLink RX1 102 yX1_sign, Cond.instanceMethod yX1_sign, Cond.selects RX1 yX1_sign yX1_sign, Cond.code yX1_sign cX1_sign 10 (some .long), Cond.constantLong RX1 88 (5), Cond.constantLong RX1 94 (2), Cond.methodLink RX1 90 yX1_isBroken, Cond.instanceMethod yX1_isBroken, Cond.selects RX1 yX1_isBroken yX1_isBroken, Cond.code yX1_isBroken cX1_isBroken 8 (some .boolean), Cond.methodLink RX1 110 yX1_keep, Cond.instanceMethod yX1_keep, Cond.selects RX1 yX1_keep yX1_keep, Cond.code yX1_keep cX1_keep 8 none, Cond.fieldLink RX1 21 "SignCutterModel" "nexts" "[I", Cond.fieldLink RX1 24 "SignCutterModel" "goes" "[I"]
def wsX1_fill : List Cond := .code yX1_fill cX1_fill 8 none :: ((wsX1_fill_r1 ++ (wsX1_fill_r2 ++ wsX1_fill_r3)) ++ wsX10)
def wsX1_cut_r1 : List Cond := [Cond.fieldLink RX1 55 "SignCutterModel" "thrown" "I", Cond.fieldLink RX1 116 "SignCutterModel" "found" "I", Cond.fieldLink RX1 13 "SignCutterModel" "many" "[I", Cond.fieldLink RX1 27 "SignCutterModel" "prices" "[J", Cond.fieldLink RX1 17 "SignCutterModel" "costs" "[J", Cond.fieldLink RX1 30 "SignCutterModel" "lengths" "[I", Cond.fieldLink RX1 33 "SignCutterModel" "ways" "[I", Cond.fieldLink RX1 21 "SignCutterModel" "nexts" "[I", Cond.fieldLink RX1 24 "SignCutterModel" "goes" "[I", Cond.methodLink RX1 66 yX1_mostInRow, Cond.instanceMethod yX1_mostInRow, Cond.selects RX1 yX1_mostInRow yX1_mostInRow, Cond.initialized RX1, Cond.code yX1_mostInRow cX1_mostInRow 3 (some .int), Cond.fieldLink RX1 52 "SignCutterModel" "height" "I", Cond.methodLink RX1 62 yX1_inRow, Cond.instanceMethod yX1_inRow, Cond.selects RX1 yX1_inRow yX1_inRow, Cond.code yX1_inRow cX1_inRow 4 (some .int), Cond.fieldLink RX1 48 "SignCutterModel" "width" "I", Cond.methodLink RX1 58 yX1_isDark, Cond.instanceMethod yX1_isDark, Cond.selects RX1 yX1_isDark yX1_isDark, Cond.code yX1_isDark cX1_isDark 3 (some .boolean)]
def wsX1_cut_r2 : List Cond := [Cond.fieldLink RX1 7 "SignCutterModel" "dark" "[Z", Cond.methodLink RX1 119 yX1_from, Cond.instanceMethod yX1_from, Cond.selects RX1 yX1_from yX1_from, Cond.code yX1_from cX1_from 2 (some .int), Cond.methodLink RX1 70 yX1_hasDark, Cond.instanceMethod yX1_hasDark, Cond.selects RX1 yX1_hasDark yX1_hasDark, Cond.code yX1_hasDark cX1_hasDark 4 (some .boolean), Cond.methodLink RX1 122 yX1_until, Cond.instanceMethod yX1_until, Cond.selects RX1 yX1_until yX1_until, Cond.code yX1_until cX1_until 2 (some .int), Cond.methodLink RX1 125 yX1_fill, Cond.instanceMethod yX1_fill, Cond.selects RX1 yX1_fill yX1_fill, Cond.code yX1_fill cX1_fill 8 none, Cond.fieldLink RX1 45 "SignCutterModel" "may" "[Z", Cond.fieldLink RX1 42 "SignCutterModel" "signs" "[J", Cond.constantLong RX1 114 (10), Cond.methodLink RX1 106 yX1_look, Cond.instanceMethod yX1_look, Cond.selects RX1 yX1_look yX1_look, Cond.code yX1_look cX1_look 5 none]
def wsX1_cut_r3 : List Cond := [Cond.fieldLink RX1 85 "SignCutterModel" "wide" "I", Cond.constantLong RX1 83 (-1), Cond.methodLink RX1 96 yX1_due, Cond.instanceMethod yX1_due, Cond.selects RX1 yX1_due yX1_due, Cond.code yX1_due cX1_due 1 (some .int), Cond.methodLink RX1 74 yX1_baseline, Cond.instanceMethod yX1_baseline, Cond.selects RX1 yX1_baseline yX1_baseline, Cond.code yX1_baseline cX1_baseline 3 (some .int), Cond.methodLink RX1 77 yX1_middle, Cond.instanceMethod yX1_middle, Cond.selects RX1 yX1_middle yX1_middle, Cond.code yX1_middle cX1_middle 3 (some .int), Cond.methodLink RX1 99 yX1_mayCut, Cond.instanceMethod yX1_mayCut, Cond.selects RX1 yX1_mayCut yX1_mayCut, Cond.code yX1_mayCut cX1_mayCut 2 (some .boolean), Cond.methodLink RX1 80 yX1_touch, Cond.instanceMethod yX1_touch, Cond.selects RX1 yX1_touch yX1_touch, Cond.code yX1_touch cX1_touch 4 (some .int), Cond.methodLink RX1 102 yX1_sign, Cond.instanceMethod yX1_sign]
def wsX1_cut_r4 : List Cond := [Cond.selects RX1 yX1_sign yX1_sign, Cond.code yX1_sign cX1_sign 10 (some .long), Cond.constantLong RX1 88 (5), Cond.constantLong RX1 94 (2), Cond.methodLink RX1 90 yX1_isBroken, Cond.instanceMethod yX1_isBroken, Cond.selects RX1 yX1_isBroken yX1_isBroken, Cond.code yX1_isBroken cX1_isBroken 8 (some .boolean), Cond.methodLink RX1 110 yX1_keep, Cond.instanceMethod yX1_keep, Cond.selects RX1 yX1_keep yX1_keep, Cond.code yX1_keep cX1_keep 8 none]
def wsX1_cut : List Cond := .code yX1_cut cX1_cut 7 (some .int) :: ((wsX1_cut_r1 ++ (wsX1_cut_r2 ++ (wsX1_cut_r3 ++ wsX1_cut_r4))) ++ wsX10)
def wsX1_way : List Cond := .code yX1_way cX1_way 3 (some .int) :: ([.fieldLink RX1 55 "SignCutterModel" "thrown" "I", .fieldLink RX1 116 "SignCutterModel" "found" "I", .fieldLink RX1 30 "SignCutterModel" "lengths" "[I", .fieldLink RX1 33 "SignCutterModel" "ways" "[I"] ++ wsX10)
def wsX1_cost : List Cond := .code yX1_cost cX1_cost 2 (some .long) :: ([.fieldLink RX1 55 "SignCutterModel" "thrown" "I", .fieldLink RX1 116 "SignCutterModel" "found" "I", .constantLong RX1 83 (-1), .fieldLink RX1 27 "SignCutterModel" "prices" "[J"] ++ wsX10)
def wsX1_signs : List Cond := .code yX1_signs cX1_signs 2 (some .int) :: ([.fieldLink RX1 55 "SignCutterModel" "thrown" "I", .fieldLink RX1 116 "SignCutterModel" "found" "I", .fieldLink RX1 30 "SignCutterModel" "lengths" "[I"] ++ wsX10)
def wsX1_base_r1 : List Cond := [Cond.fieldLink RX1 55 "SignCutterModel" "thrown" "I", Cond.methodLink RX1 66 yX1_mostInRow, Cond.instanceMethod yX1_mostInRow, Cond.selects RX1 yX1_mostInRow yX1_mostInRow, Cond.initialized RX1, Cond.code yX1_mostInRow cX1_mostInRow 3 (some .int), Cond.fieldLink RX1 52 "SignCutterModel" "height" "I", Cond.methodLink RX1 62 yX1_inRow, Cond.instanceMethod yX1_inRow, Cond.selects RX1 yX1_inRow yX1_inRow, Cond.code yX1_inRow cX1_inRow 4 (some .int), Cond.fieldLink RX1 48 "SignCutterModel" "width" "I", Cond.methodLink RX1 58 yX1_isDark, Cond.instanceMethod yX1_isDark, Cond.selects RX1 yX1_isDark yX1_isDark, Cond.code yX1_isDark cX1_isDark 3 (some .boolean), Cond.fieldLink RX1 7 "SignCutterModel" "dark" "[Z", Cond.methodLink RX1 77 yX1_middle, Cond.instanceMethod yX1_middle, Cond.selects RX1 yX1_middle yX1_middle, Cond.code yX1_middle cX1_middle 3 (some .int), Cond.methodLink RX1 74 yX1_baseline, Cond.instanceMethod yX1_baseline, Cond.selects RX1 yX1_baseline yX1_baseline]
def wsX1_base_r2 : List Cond := [Cond.code yX1_baseline cX1_baseline 3 (some .int), Cond.methodLink RX1 96 yX1_due, Cond.instanceMethod yX1_due, Cond.selects RX1 yX1_due yX1_due, Cond.code yX1_due cX1_due 1 (some .int), Cond.methodLink RX1 119 yX1_from, Cond.instanceMethod yX1_from, Cond.selects RX1 yX1_from yX1_from, Cond.code yX1_from cX1_from 2 (some .int), Cond.methodLink RX1 70 yX1_hasDark, Cond.instanceMethod yX1_hasDark, Cond.selects RX1 yX1_hasDark yX1_hasDark, Cond.code yX1_hasDark cX1_hasDark 4 (some .boolean), Cond.methodLink RX1 122 yX1_until, Cond.instanceMethod yX1_until, Cond.selects RX1 yX1_until yX1_until, Cond.code yX1_until cX1_until 2 (some .int), Cond.methodLink RX1 99 yX1_mayCut, Cond.instanceMethod yX1_mayCut, Cond.selects RX1 yX1_mayCut yX1_mayCut, Cond.code yX1_mayCut cX1_mayCut 2 (some .boolean), Cond.methodLink RX1 80 yX1_touch, Cond.instanceMethod yX1_touch, Cond.selects RX1 yX1_touch yX1_touch]
def wsX1_base_r3 : List Cond := [Cond.code yX1_touch cX1_touch 4 (some .int)]
def wsX1_base : List Cond := .code yX1_base cX1_base 4 (some .int) :: ((wsX1_base_r1 ++ (wsX1_base_r2 ++ wsX1_base_r3)) ++ wsX10)
def wsX1_columns : List Cond := .code yX1_columns cX1_columns 8 (some .int) :: ([.fieldLink RX1 52 "SignCutterModel" "height" "I", .fieldLink RX1 48 "SignCutterModel" "width" "I", .methodLink RX1 58 yX1_isDark, .instanceMethod yX1_isDark, .selects RX1 yX1_isDark yX1_isDark, .initialized RX1, .code yX1_isDark cX1_isDark 3 (some .boolean), .fieldLink RX1 7 "SignCutterModel" "dark" "[Z"] ++ wsX10)
def wsX1_slant : List Cond := .code yX1_slant cX1_slant 6 (some .int) :: ([.fieldLink RX1 55 "SignCutterModel" "thrown" "I", .methodLink RX1 128 yX1_columns, .instanceMethod yX1_columns, .selects RX1 yX1_columns yX1_columns, .initialized RX1, .code yX1_columns cX1_columns 8 (some .int), .fieldLink RX1 52 "SignCutterModel" "height" "I", .fieldLink RX1 48 "SignCutterModel" "width" "I", .methodLink RX1 58 yX1_isDark, .instanceMethod yX1_isDark, .selects RX1 yX1_isDark yX1_isDark, .code yX1_isDark cX1_isDark 3 (some .boolean), .fieldLink RX1 7 "SignCutterModel" "dark" "[Z"] ++ wsX10)
def wsX1_plain_r1 : List Cond := [Cond.fieldLink RX1 55 "SignCutterModel" "thrown" "I", Cond.fieldLink RX1 39 "SignCutterModel" "before" "[J", Cond.fieldLink RX1 36 "SignCutterModel" "counts" "[J", Cond.fieldLink RX1 42 "SignCutterModel" "signs" "[J", Cond.constantLong RX1 131 (1000000000), Cond.methodLink RX1 66 yX1_mostInRow, Cond.instanceMethod yX1_mostInRow, Cond.selects RX1 yX1_mostInRow yX1_mostInRow, Cond.initialized RX1, Cond.code yX1_mostInRow cX1_mostInRow 3 (some .int), Cond.fieldLink RX1 52 "SignCutterModel" "height" "I", Cond.methodLink RX1 62 yX1_inRow, Cond.instanceMethod yX1_inRow, Cond.selects RX1 yX1_inRow yX1_inRow, Cond.code yX1_inRow cX1_inRow 4 (some .int), Cond.fieldLink RX1 48 "SignCutterModel" "width" "I", Cond.methodLink RX1 58 yX1_isDark, Cond.instanceMethod yX1_isDark, Cond.selects RX1 yX1_isDark yX1_isDark, Cond.code yX1_isDark cX1_isDark 3 (some .boolean), Cond.fieldLink RX1 7 "SignCutterModel" "dark" "[Z", Cond.methodLink RX1 119 yX1_from, Cond.instanceMethod yX1_from, Cond.selects RX1 yX1_from yX1_from]
def wsX1_plain_r2 : List Cond := [Cond.code yX1_from cX1_from 2 (some .int), Cond.methodLink RX1 70 yX1_hasDark, Cond.instanceMethod yX1_hasDark, Cond.selects RX1 yX1_hasDark yX1_hasDark, Cond.code yX1_hasDark cX1_hasDark 4 (some .boolean), Cond.methodLink RX1 122 yX1_until, Cond.instanceMethod yX1_until, Cond.selects RX1 yX1_until yX1_until, Cond.code yX1_until cX1_until 2 (some .int), Cond.methodLink RX1 106 yX1_look, Cond.instanceMethod yX1_look, Cond.selects RX1 yX1_look yX1_look, Cond.code yX1_look cX1_look 5 none, Cond.fieldLink RX1 85 "SignCutterModel" "wide" "I", Cond.fieldLink RX1 45 "SignCutterModel" "may" "[Z", Cond.constantLong RX1 83 (-1), Cond.methodLink RX1 96 yX1_due, Cond.instanceMethod yX1_due, Cond.selects RX1 yX1_due yX1_due, Cond.code yX1_due cX1_due 1 (some .int), Cond.methodLink RX1 74 yX1_baseline, Cond.instanceMethod yX1_baseline, Cond.selects RX1 yX1_baseline yX1_baseline, Cond.code yX1_baseline cX1_baseline 3 (some .int)]
def wsX1_plain_r3 : List Cond := [Cond.methodLink RX1 77 yX1_middle, Cond.instanceMethod yX1_middle, Cond.selects RX1 yX1_middle yX1_middle, Cond.code yX1_middle cX1_middle 3 (some .int), Cond.methodLink RX1 99 yX1_mayCut, Cond.instanceMethod yX1_mayCut, Cond.selects RX1 yX1_mayCut yX1_mayCut, Cond.code yX1_mayCut cX1_mayCut 2 (some .boolean), Cond.methodLink RX1 80 yX1_touch, Cond.instanceMethod yX1_touch, Cond.selects RX1 yX1_touch yX1_touch, Cond.code yX1_touch cX1_touch 4 (some .int), Cond.methodLink RX1 102 yX1_sign, Cond.instanceMethod yX1_sign, Cond.selects RX1 yX1_sign yX1_sign, Cond.code yX1_sign cX1_sign 10 (some .long), Cond.constantLong RX1 88 (5), Cond.constantLong RX1 94 (2), Cond.methodLink RX1 90 yX1_isBroken, Cond.instanceMethod yX1_isBroken, Cond.selects RX1 yX1_isBroken yX1_isBroken, Cond.code yX1_isBroken cX1_isBroken 8 (some .boolean)]
def wsX1_plain : List Cond := .code yX1_plain cX1_plain 7 (some .int) :: ((wsX1_plain_r1 ++ (wsX1_plain_r2 ++ wsX1_plain_r3)) ++ wsX10)
def wsJx00060_init_a7421 : List Cond := .code yJx00060_init_a7421 cJx00060_init_a7421 2 none :: ([])
def wsJ9_max_7cf53 : List Cond := .code yJ9_max_7cf53 cJ9_max_7cf53 2 (some .int) :: ([])
def wsJ9_min_7cf53 : List Cond := .code yJ9_min_7cf53 cJ9_min_7cf53 2 (some .int) :: ([])
def wsL_cell : List Cond := .code yL_cell cL_cell 2 (some .int) :: ([])
def wsL_column : List Cond := .codeWith yL_column cL_column 5 (some .int) [(0, 7, 10, 13)] :: ([.methodLink RL 7 yX0_column, .instanceMethod yX0_column, .selects RX0 yX0_column yX0_column, .initialized RX0, .code yX0_column cX0_column 4 none, .fieldLink RX0 18 "SignCutter" "width" "I", .fieldLink RX0 22 "SignCutter" "height" "I", .classLink RX0 48 RJx00060, .instantiable RJx00060 6, .initialized RJx00060, .fieldLink RX0 25 "SignCutter" "columns" "[J", .fieldLink RX0 29 "SignCutter" "rows" "[J", .constantLong RX0 55 (-1)] ++ wsX00 ++ wsJx000600)
def wsL_law_r1 : List Cond := [Cond.classLink RL 8 RX0, Cond.instantiable RX0 11, Cond.initialized RX0, Cond.classLink RL 24 RX1, Cond.instantiable RX1 17, Cond.initialized RX1, Cond.methodLink RL 15 yL_cell, Cond.static yL_cell, Cond.initialized RL, Cond.code yL_cell cL_cell 2 (some .int), Cond.methodLink RL 21 yX0_init, Cond.instanceMethod yX0_init, Cond.code yX0_init cX0_init 4 none, Cond.methodLink RX0 1 objectInit, Cond.instanceMethod objectInit, Cond.code objectInit ⟨#[0xb1]⟩ 1 none, Cond.methodLink RX0 9 Lib.Math.min.name, Cond.static Lib.Math.min.name, Cond.initialized "java/lang/Math", Cond.code Lib.Math.min.name Lib.Math.min.code 2 (some .int), Cond.methodLink RX0 15 Lib.Math.max.name, Cond.static Lib.Math.max.name, Cond.code Lib.Math.max.name Lib.Math.max.code 2 (some .int), Cond.fieldLink RX0 18 "SignCutter" "width" "I"]
def wsL_law_r2 : List Cond := [Cond.fieldLink RX0 22 "SignCutter" "height" "I", Cond.arrayClass .long, Cond.fieldLink RX0 25 "SignCutter" "columns" "[J", Cond.fieldLink RX0 29 "SignCutter" "rows" "[J", Cond.fieldLink RX0 32 "SignCutter" "ends" "[J", Cond.arrayClass .int, Cond.fieldLink RX0 35 "SignCutter" "endCosts" "[I", Cond.fieldLink RX0 39 "SignCutter" "endCounts" "[I", Cond.fieldLink RX0 42 "SignCutter" "tails" "[I", Cond.fieldLink RX0 45 "SignCutter" "longerTails" "[I", Cond.methodLink RL 26 yX1_init, Cond.instanceMethod yX1_init, Cond.code yX1_init cX1_init 3 none, Cond.methodLink RX1 1 objectInit, Cond.arrayClass .boolean, Cond.fieldLink RX1 7 "SignCutterModel" "dark" "[Z", Cond.fieldLink RX1 13 "SignCutterModel" "many" "[I", Cond.fieldLink RX1 17 "SignCutterModel" "costs" "[J", Cond.fieldLink RX1 21 "SignCutterModel" "nexts" "[I", Cond.fieldLink RX1 24 "SignCutterModel" "goes" "[I", Cond.fieldLink RX1 27 "SignCutterModel" "prices" "[J", Cond.fieldLink RX1 30 "SignCutterModel" "lengths" "[I", Cond.fieldLink RX1 33 "SignCutterModel" "ways" "[I", Cond.fieldLink RX1 36 "SignCutterModel" "counts" "[J"]
def wsL_law_r3 : List Cond := [Cond.fieldLink RX1 39 "SignCutterModel" "before" "[J", Cond.fieldLink RX1 42 "SignCutterModel" "signs" "[J", Cond.fieldLink RX1 45 "SignCutterModel" "may" "[Z", Cond.fieldLink RX1 48 "SignCutterModel" "width" "I", Cond.fieldLink RX1 52 "SignCutterModel" "height" "I", Cond.methodLink RL 27 yL_column, Cond.static yL_column, Cond.codeWith yL_column cL_column 5 (some .int) [(0, 7, 10, 13)], Cond.methodLink RL 7 yX0_column, Cond.instanceMethod yX0_column, Cond.selects RX0 yX0_column yX0_column, Cond.code yX0_column cX0_column 4 none, Cond.classLink RX0 48 RJx00060, Cond.instantiable RJx00060 6, Cond.initialized RJx00060, Cond.constantLong RX0 55 (-1), Cond.methodLink RL 30 yX1_column, Cond.instanceMethod yX1_column, Cond.selects RX1 yX1_column yX1_column, Cond.code yX1_column cX1_column 4 none, Cond.fieldLink RX1 55 "SignCutterModel" "thrown" "I", Cond.methodLink RL 31 yX1_thrown, Cond.instanceMethod yX1_thrown, Cond.selects RX1 yX1_thrown yX1_thrown]
def wsL_law_r4 : List Cond := [Cond.code yX1_thrown cX1_thrown 1 (some .int), Cond.methodLink RL 35 yX0_cut, Cond.instanceMethod yX0_cut, Cond.selects RX0 yX0_cut yX0_cut, Cond.code yX0_cut cX0_cut 4 (some .int), Cond.fieldLink RX0 61 "SignCutter" "found" "I", Cond.fieldLink RX0 75 "SignCutter" "foundFrom" "I", Cond.methodLink RX0 57 yX0_firstDarkColumn, Cond.instanceMethod yX0_firstDarkColumn, Cond.selects RX0 yX0_firstDarkColumn yX0_firstDarkColumn, Cond.code yX0_firstDarkColumn cX0_firstDarkColumn 2 (some .int), Cond.methodLink RX0 64 yX0_lastDarkColumn, Cond.instanceMethod yX0_lastDarkColumn, Cond.selects RX0 yX0_lastDarkColumn yX0_lastDarkColumn, Cond.code yX0_lastDarkColumn cX0_lastDarkColumn 2 (some .int), Cond.methodLink RX0 67 yX0_shelveUntil, Cond.instanceMethod yX0_shelveUntil, Cond.selects RX0 yX0_shelveUntil yX0_shelveUntil, Cond.code yX0_shelveUntil cX0_shelveUntil 2 none, Cond.methodLink RX0 82 yX0_shelf, Cond.static yX0_shelf, Cond.code yX0_shelf cX0_shelf 1 (some .int), Cond.methodLink RX0 71 yX0_shelveEnds, Cond.instanceMethod yX0_shelveEnds]
def wsL_law_r5 : List Cond := [Cond.selects RX0 yX0_shelveEnds yX0_shelveEnds, Cond.code yX0_shelveEnds cX0_shelveEnds 10 none, Cond.methodLink RX0 102 yX0_dueWidth, Cond.instanceMethod yX0_dueWidth, Cond.selects RX0 yX0_dueWidth yX0_dueWidth, Cond.code yX0_dueWidth cX0_dueWidth 1 (some .int), Cond.methodLink RX0 99 yX0_lastStrongRow, Cond.instanceMethod yX0_lastStrongRow, Cond.selects RX0 yX0_lastStrongRow yX0_lastStrongRow, Cond.code yX0_lastStrongRow cX0_lastStrongRow 3 (some .int), Cond.methodLink RX0 119 yX0_mostDarkInARow, Cond.instanceMethod yX0_mostDarkInARow, Cond.selects RX0 yX0_mostDarkInARow yX0_mostDarkInARow, Cond.code yX0_mostDarkInARow cX0_mostDarkInARow 3 (some .int), Cond.methodLink RX0 116 yX0_darkInRow, Cond.instanceMethod yX0_darkInRow, Cond.selects RX0 yX0_darkInRow yX0_darkInRow, Cond.code yX0_darkInRow cX0_darkInRow 2 (some .int), Cond.methodLink RX0 90 yJ13_bitCount_95d88, Cond.static yJ13_bitCount_95d88, Cond.initialized RJ13, Cond.code yJ13_bitCount_95d88 cJ13_bitCount_95d88 2 (some .int), Cond.constantLong RJ13 314 (6148914691236517205), Cond.constantLong RJ13 316 (3689348814741910323)]
def wsL_law_r6 : List Cond := [Cond.constantLong RJ13 318 (1085102592571150095), Cond.methodLink RX0 96 yX0_firstStrongRow, Cond.instanceMethod yX0_firstStrongRow, Cond.selects RX0 yX0_firstStrongRow yX0_firstStrongRow, Cond.code yX0_firstStrongRow cX0_firstStrongRow 3 (some .int), Cond.methodLink RX0 105 yX0_placesToCut, Cond.instanceMethod yX0_placesToCut, Cond.selects RX0 yX0_placesToCut yX0_placesToCut, Cond.code yX0_placesToCut cX0_placesToCut 7 (some .long), Cond.methodLink RX0 125 yX0_touch, Cond.instanceMethod yX0_touch, Cond.selects RX0 yX0_touch yX0_touch, Cond.code yX0_touch cX0_touch 2 (some .int), Cond.methodLink RX0 86 yX0_has, Cond.static yX0_has, Cond.code yX0_has cX0_has 3 (some .boolean), Cond.methodLink RX0 135 yX0_shelveEndsAt, Cond.instanceMethod yX0_shelveEndsAt, Cond.selects RX0 yX0_shelveEndsAt yX0_shelveEndsAt, Cond.code yX0_shelveEndsAt cX0_shelveEndsAt 22 none, Cond.methodLink RX0 139 yX0_signCost, Cond.static yX0_signCost, Cond.code yX0_signCost cX0_signCost 6 (some .int), Cond.methodLink RX0 143 yX0_goOnFrom]
def wsL_law_r7 : List Cond := [Cond.instanceMethod yX0_goOnFrom, Cond.selects RX0 yX0_goOnFrom yX0_goOnFrom, Cond.code yX0_goOnFrom cX0_goOnFrom 8 none, Cond.methodLink RX0 147 yX0_shelve, Cond.instanceMethod yX0_shelve, Cond.selects RX0 yX0_shelve yX0_shelve, Cond.code yX0_shelve cX0_shelve 9 (some .boolean), Cond.methodLink RL 39 yX1_cut, Cond.instanceMethod yX1_cut, Cond.selects RX1 yX1_cut yX1_cut, Cond.code yX1_cut cX1_cut 7 (some .int), Cond.fieldLink RX1 116 "SignCutterModel" "found" "I", Cond.methodLink RX1 66 yX1_mostInRow, Cond.instanceMethod yX1_mostInRow, Cond.selects RX1 yX1_mostInRow yX1_mostInRow, Cond.code yX1_mostInRow cX1_mostInRow 3 (some .int), Cond.methodLink RX1 62 yX1_inRow, Cond.instanceMethod yX1_inRow, Cond.selects RX1 yX1_inRow yX1_inRow, Cond.code yX1_inRow cX1_inRow 4 (some .int), Cond.methodLink RX1 58 yX1_isDark, Cond.instanceMethod yX1_isDark, Cond.selects RX1 yX1_isDark yX1_isDark, Cond.code yX1_isDark cX1_isDark 3 (some .boolean)]
def wsL_law_r8 : List Cond := [Cond.methodLink RX1 119 yX1_from, Cond.instanceMethod yX1_from, Cond.selects RX1 yX1_from yX1_from, Cond.code yX1_from cX1_from 2 (some .int), Cond.methodLink RX1 70 yX1_hasDark, Cond.instanceMethod yX1_hasDark, Cond.selects RX1 yX1_hasDark yX1_hasDark, Cond.code yX1_hasDark cX1_hasDark 4 (some .boolean), Cond.methodLink RX1 122 yX1_until, Cond.instanceMethod yX1_until, Cond.selects RX1 yX1_until yX1_until, Cond.code yX1_until cX1_until 2 (some .int), Cond.methodLink RX1 125 yX1_fill, Cond.instanceMethod yX1_fill, Cond.selects RX1 yX1_fill yX1_fill, Cond.code yX1_fill cX1_fill 8 none, Cond.constantLong RX1 114 (10), Cond.methodLink RX1 106 yX1_look, Cond.instanceMethod yX1_look, Cond.selects RX1 yX1_look yX1_look, Cond.code yX1_look cX1_look 5 none, Cond.fieldLink RX1 85 "SignCutterModel" "wide" "I", Cond.constantLong RX1 83 (-1), Cond.methodLink RX1 96 yX1_due]
def wsL_law_r9 : List Cond := [Cond.instanceMethod yX1_due, Cond.selects RX1 yX1_due yX1_due, Cond.code yX1_due cX1_due 1 (some .int), Cond.methodLink RX1 74 yX1_baseline, Cond.instanceMethod yX1_baseline, Cond.selects RX1 yX1_baseline yX1_baseline, Cond.code yX1_baseline cX1_baseline 3 (some .int), Cond.methodLink RX1 77 yX1_middle, Cond.instanceMethod yX1_middle, Cond.selects RX1 yX1_middle yX1_middle, Cond.code yX1_middle cX1_middle 3 (some .int), Cond.methodLink RX1 99 yX1_mayCut, Cond.instanceMethod yX1_mayCut, Cond.selects RX1 yX1_mayCut yX1_mayCut, Cond.code yX1_mayCut cX1_mayCut 2 (some .boolean), Cond.methodLink RX1 80 yX1_touch, Cond.instanceMethod yX1_touch, Cond.selects RX1 yX1_touch yX1_touch, Cond.code yX1_touch cX1_touch 4 (some .int), Cond.methodLink RX1 102 yX1_sign, Cond.instanceMethod yX1_sign, Cond.selects RX1 yX1_sign yX1_sign, Cond.code yX1_sign cX1_sign 10 (some .long), Cond.constantLong RX1 88 (5)]
def wsL_law_r10 : List Cond := [Cond.constantLong RX1 94 (2), Cond.methodLink RX1 90 yX1_isBroken, Cond.instanceMethod yX1_isBroken, Cond.selects RX1 yX1_isBroken yX1_isBroken, Cond.code yX1_isBroken cX1_isBroken 8 (some .boolean), Cond.methodLink RX1 110 yX1_keep, Cond.instanceMethod yX1_keep, Cond.selects RX1 yX1_keep yX1_keep, Cond.code yX1_keep cX1_keep 8 none, Cond.methodLink RL 40 yX0_way, Cond.instanceMethod yX0_way, Cond.selects RX0 yX0_way yX0_way, Cond.code yX0_way cX0_way 7 (some .int), Cond.methodLink RX0 78 yX0_isFound, Cond.instanceMethod yX0_isFound, Cond.selects RX0 yX0_isFound yX0_isFound, Cond.code yX0_isFound cX0_isFound 2 (some .boolean), Cond.methodLink RL 44 yX1_way, Cond.instanceMethod yX1_way, Cond.selects RX1 yX1_way yX1_way, Cond.code yX1_way cX1_way 3 (some .int), Cond.methodLink RL 45 yX0_cost, Cond.instanceMethod yX0_cost, Cond.selects RX0 yX0_cost yX0_cost]
def wsL_law_r11 : List Cond := [Cond.code yX0_cost cX0_cost 2 (some .long), Cond.methodLink RL 49 yX1_cost, Cond.instanceMethod yX1_cost, Cond.selects RX1 yX1_cost yX1_cost, Cond.code yX1_cost cX1_cost 2 (some .long), Cond.methodLink RL 50 yX0_signs, Cond.instanceMethod yX0_signs, Cond.selects RX0 yX0_signs yX0_signs, Cond.code yX0_signs cX0_signs 2 (some .int), Cond.methodLink RL 53 yX1_signs, Cond.instanceMethod yX1_signs, Cond.selects RX1 yX1_signs yX1_signs, Cond.code yX1_signs cX1_signs 2 (some .int), Cond.methodLink RL 54 yX0_base, Cond.instanceMethod yX0_base, Cond.selects RX0 yX0_base yX0_base, Cond.code yX0_base cX0_base 2 (some .int), Cond.methodLink RL 57 yX1_base, Cond.instanceMethod yX1_base, Cond.selects RX1 yX1_base yX1_base, Cond.code yX1_base cX1_base 4 (some .int), Cond.methodLink RL 58 yX0_slant, Cond.instanceMethod yX0_slant, Cond.selects RX0 yX0_slant yX0_slant]
def wsL_law_r12 : List Cond := [Cond.code yX0_slant cX0_slant 6 (some .int), Cond.methodLink RX0 109 yX0_shearedColumns, Cond.instanceMethod yX0_shearedColumns, Cond.selects RX0 yX0_shearedColumns yX0_shearedColumns, Cond.code yX0_shearedColumns cX0_shearedColumns 8 (some .int), Cond.methodLink RX0 122 yJ9_floorDiv_7cf53, Cond.static yJ9_floorDiv_7cf53, Cond.initialized RJ9, Cond.code yJ9_floorDiv_7cf53 cJ9_floorDiv_7cf53 3 (some .int), Cond.methodLink RL 61 yX1_slant, Cond.instanceMethod yX1_slant, Cond.selects RX1 yX1_slant yX1_slant, Cond.code yX1_slant cX1_slant 6 (some .int), Cond.methodLink RX1 128 yX1_columns, Cond.instanceMethod yX1_columns, Cond.selects RX1 yX1_columns yX1_columns, Cond.code yX1_columns cX1_columns 8 (some .int), Cond.methodLink RL 62 yX0_plain, Cond.instanceMethod yX0_plain, Cond.selects RX0 yX0_plain yX0_plain, Cond.code yX0_plain cX0_plain 7 (some .int), Cond.methodLink RX0 112 yX0_lengthenTails, Cond.instanceMethod yX0_lengthenTails, Cond.selects RX0 yX0_lengthenTails yX0_lengthenTails]
def wsL_law_r13 : List Cond := [Cond.code yX0_lengthenTails cX0_lengthenTails 8 none, Cond.constant RX0 128 (1000000000), Cond.methodLink RX0 129 arraycopyName, Cond.native arraycopyName, Cond.static arraycopyName, Cond.initialized "java/lang/System", Cond.methodLink RL 65 yX1_plain, Cond.instanceMethod yX1_plain, Cond.selects RX1 yX1_plain yX1_plain, Cond.code yX1_plain cX1_plain 7 (some .int), Cond.constantLong RX1 131 (1000000000)]
def wsL_law : List Cond := (wsL_law_r1 ++ (wsL_law_r2 ++ (wsL_law_r3 ++ (wsL_law_r4 ++ (wsL_law_r5 ++ (wsL_law_r6 ++ (wsL_law_r7 ++ (wsL_law_r8 ++ (wsL_law_r9 ++ (wsL_law_r10 ++ (wsL_law_r11 ++ (wsL_law_r12 ++ wsL_law_r13)))))))))))) ++ wsX00 ++ wsX10 ++ wsJx000600 ++ ([] : List Cond)
end
section
set_option maxRecDepth 20000 in
theorem in_wsL_law_r1 : ∀ w ∈ wsL_law_r1, w ∈ lw_tbl := fun w h => (goodIn_p wsL_law_r1 [217, 50, 53, 56, 59] (by decide +kernel) (by decide +kernel) w h).1
set_option maxRecDepth 20000 in
theorem in_wsL_law_r2 : ∀ w ∈ wsL_law_r2, w ∈ lw_tbl := fun w h => (goodIn_p wsL_law_r2 [301] (by decide +kernel) (by decide +kernel) w h).1
set_option maxRecDepth 20000 in
theorem in_wsL_law_r3 : ∀ w ∈ wsL_law_r3, w ∈ lw_tbl := fun w h => (goodIn_p wsL_law_r3 [225, 363] (by decide +kernel) (by decide +kernel) w h).1
set_option maxRecDepth 20000 in
theorem in_wsL_law_r4 : ∀ w ∈ wsL_law_r4, w ∈ lw_tbl := fun w h => (goodIn_p wsL_law_r4 [359, 99, 103, 107, 111, 114] (by decide +kernel) (by decide +kernel) w h).1
set_option maxRecDepth 20000 in
theorem in_wsL_law_r5 : ∀ w ∈ wsL_law_r5, w ∈ lw_tbl := fun w h => (goodIn_p wsL_law_r5 [118, 122, 126, 130, 134, 137] (by decide +kernel) (by decide +kernel) w h).1
set_option maxRecDepth 20000 in
theorem in_wsL_law_r6 : ∀ w ∈ wsL_law_r6, w ∈ lw_tbl := fun w h => (goodIn_p wsL_law_r6 [144, 148, 152, 155, 159, 163] (by decide +kernel) (by decide +kernel) w h).1
set_option maxRecDepth 20000 in
theorem in_wsL_law_r7 : ∀ w ∈ wsL_law_r7, w ∈ lw_tbl := fun w h => (goodIn_p wsL_law_r7 [167, 171, 367, 371, 375, 379] (by decide +kernel) (by decide +kernel) w h).1
set_option maxRecDepth 20000 in
theorem in_wsL_law_r8 : ∀ w ∈ wsL_law_r8, w ∈ lw_tbl := fun w h => (goodIn_p wsL_law_r8 [383, 387, 391, 395, 399] (by decide +kernel) (by decide +kernel) w h).1
set_option maxRecDepth 20000 in
theorem in_wsL_law_r9 : ∀ w ∈ wsL_law_r9, w ∈ lw_tbl := fun w h => (goodIn_p wsL_law_r9 [403, 407, 411, 415, 419, 423] (by decide +kernel) (by decide +kernel) w h).1
set_option maxRecDepth 20000 in
theorem in_wsL_law_r10 : ∀ w ∈ wsL_law_r10, w ∈ lw_tbl := fun w h => (goodIn_p wsL_law_r10 [429, 434, 175, 179, 439] (by decide +kernel) (by decide +kernel) w h).1
set_option maxRecDepth 20000 in
theorem in_wsL_law_r11 : ∀ w ∈ wsL_law_r11, w ∈ lw_tbl := fun w h => (goodIn_p wsL_law_r11 [183, 443, 187, 447, 191, 451] (by decide +kernel) (by decide +kernel) w h).1
set_option maxRecDepth 20000 in
theorem in_wsL_law_r12 : ∀ w ∈ wsL_law_r12, w ∈ lw_tbl := fun w h => (goodIn_p wsL_law_r12 [195, 199, 202, 455, 459, 206] (by decide +kernel) (by decide +kernel) w h).1
set_option maxRecDepth 20000 in
theorem in_wsL_law_r13 : ∀ w ∈ wsL_law_r13, w ∈ lw_tbl := fun w h => (goodIn_p wsL_law_r13 [210, 463] (by decide +kernel) (by decide +kernel) w h).1
set_option maxRecDepth 20000 in
theorem in_wsX00 : ∀ w ∈ wsX00, w ∈ lw_tbl := fun w h => (goodIn_p wsX00 [] (by decide +kernel) (by decide +kernel) w h).1
set_option maxRecDepth 20000 in
theorem in_wsX10 : ∀ w ∈ wsX10, w ∈ lw_tbl := fun w h => (goodIn_p wsX10 [] (by decide +kernel) (by decide +kernel) w h).1
set_option maxRecDepth 20000 in
theorem in_wsJx000600 : ∀ w ∈ wsJx000600, w ∈ lw_tbl := fun w h => (goodIn_p wsJx000600 [] (by decide +kernel) (by decide +kernel) w h).1
theorem wsL_law_in : ∀ w ∈ wsL_law, w ∈ lw_tbl := List.forall_mem_append.mpr ⟨List.forall_mem_append.mpr ⟨List.forall_mem_append.mpr ⟨List.forall_mem_append.mpr ⟨(List.forall_mem_append.mpr ⟨in_wsL_law_r1, (List.forall_mem_append.mpr ⟨in_wsL_law_r2, (List.forall_mem_append.mpr ⟨in_wsL_law_r3, (List.forall_mem_append.mpr ⟨in_wsL_law_r4, (List.forall_mem_append.mpr ⟨in_wsL_law_r5, (List.forall_mem_append.mpr ⟨in_wsL_law_r6, (List.forall_mem_append.mpr ⟨in_wsL_law_r7, (List.forall_mem_append.mpr ⟨in_wsL_law_r8, (List.forall_mem_append.mpr ⟨in_wsL_law_r9, (List.forall_mem_append.mpr ⟨in_wsL_law_r10, (List.forall_mem_append.mpr ⟨in_wsL_law_r11, (List.forall_mem_append.mpr ⟨in_wsL_law_r12, in_wsL_law_r13⟩)⟩)⟩)⟩)⟩)⟩)⟩)⟩)⟩)⟩)⟩)⟩), in_wsX00⟩, in_wsX10⟩, in_wsJx000600⟩, fun _ h => absurd h List.not_mem_nil⟩
theorem inlX0 : ∀ w ∈ wsX00, w ∈ wsL_law := fun _ h => List.mem_append_left _ (List.mem_append_left _ (List.mem_append_left _ (List.mem_append_right _ h)))
theorem inX0 : ∀ w ∈ wsX00, w ∈ lw_tbl := fun w h => wsL_law_in w (inlX0 w h)
theorem inlX1 : ∀ w ∈ wsX10, w ∈ wsL_law := fun _ h => List.mem_append_left _ (List.mem_append_left _ (List.mem_append_right _ h))
theorem inX1 : ∀ w ∈ wsX10, w ∈ lw_tbl := fun w h => wsL_law_in w (inlX1 w h)
theorem inlJx00060 : ∀ w ∈ wsJx000600, w ∈ wsL_law := fun _ h => List.mem_append_left _ (List.mem_append_right _ h)
theorem inJx00060 : ∀ w ∈ wsJx000600, w ∈ lw_tbl := fun w h => wsL_law_in w (inlJx00060 w h)
theorem inJ13 : ∀ w ∈ wsJ130, w ∈ lw_tbl := by decide +kernel
theorem inJ9 : ∀ w ∈ wsJ90, w ∈ lw_tbl := by decide +kernel
theorem inJ0 : ∀ w ∈ wsJ00, w ∈ lw_tbl := by decide +kernel
theorem inJ10 : ∀ w ∈ wsJ100, w ∈ lw_tbl := by decide +kernel
theorem dX0_init_0 : decode cX0_init 0 = .ok (.aload_n 0, 1) := by decide +kernel
theorem dX0_init_1 : decode cX0_init 1 = .ok (.invokespecial 1, 3) := by decide +kernel
theorem dX0_init_4 : decode cX0_init 4 = .ok (.aload_n 0, 1) := by decide +kernel
theorem dX0_init_5 : decode cX0_init 5 = .ok (.iconst 1, 1) := by decide +kernel
theorem dX0_init_6 : decode cX0_init 6 = .ok (.bipush 60, 2) := by decide +kernel
theorem dX0_init_8 : decode cX0_init 8 = .ok (.iload_n 1, 1) := by decide +kernel
theorem dX0_init_9 : decode cX0_init 9 = .ok (.invokestatic 9, 3) := by decide +kernel
theorem dX0_init_12 : decode cX0_init 12 = .ok (.invokestatic 15, 3) := by decide +kernel
theorem dX0_init_15 : decode cX0_init 15 = .ok (.putfield 18, 3) := by decide +kernel
theorem dX0_init_18 : decode cX0_init 18 = .ok (.aload_n 0, 1) := by decide +kernel
theorem dX0_init_19 : decode cX0_init 19 = .ok (.iconst 1, 1) := by decide +kernel
theorem dX0_init_20 : decode cX0_init 20 = .ok (.bipush 40, 2) := by decide +kernel
theorem dX0_init_22 : decode cX0_init 22 = .ok (.iload_n 2, 1) := by decide +kernel
theorem dX0_init_23 : decode cX0_init 23 = .ok (.invokestatic 9, 3) := by decide +kernel
theorem dX0_init_26 : decode cX0_init 26 = .ok (.invokestatic 15, 3) := by decide +kernel
theorem dX0_init_29 : decode cX0_init 29 = .ok (.putfield 22, 3) := by decide +kernel
theorem dX0_init_32 : decode cX0_init 32 = .ok (.aload_n 0, 1) := by decide +kernel
theorem dX0_init_33 : decode cX0_init 33 = .ok (.getfield 18, 3) := by decide +kernel
theorem dX0_init_36 : decode cX0_init 36 = .ok (.iconst 1, 1) := by decide +kernel
theorem dX0_init_37 : decode cX0_init 37 = .ok (.iadd, 1) := by decide +kernel
theorem dX0_init_38 : decode cX0_init 38 = .ok (.istore_n 3, 1) := by decide +kernel
theorem dX0_init_39 : decode cX0_init 39 = .ok (.aload_n 0, 1) := by decide +kernel
theorem dX0_init_40 : decode cX0_init 40 = .ok (.aload_n 0, 1) := by decide +kernel
theorem dX0_init_41 : decode cX0_init 41 = .ok (.getfield 18, 3) := by decide +kernel
theorem dX0_init_44 : decode cX0_init 44 = .ok (.newarray .long, 2) := by decide +kernel
theorem dX0_init_46 : decode cX0_init 46 = .ok (.putfield 25, 3) := by decide +kernel
theorem dX0_init_49 : decode cX0_init 49 = .ok (.aload_n 0, 1) := by decide +kernel
theorem dX0_init_50 : decode cX0_init 50 = .ok (.aload_n 0, 1) := by decide +kernel
theorem dX0_init_51 : decode cX0_init 51 = .ok (.getfield 22, 3) := by decide +kernel
theorem dX0_init_54 : decode cX0_init 54 = .ok (.newarray .long, 2) := by decide +kernel
theorem dX0_init_56 : decode cX0_init 56 = .ok (.putfield 29, 3) := by decide +kernel
theorem dX0_init_59 : decode cX0_init 59 = .ok (.aload_n 0, 1) := by decide +kernel
theorem dX0_init_60 : decode cX0_init 60 = .ok (.iload_n 3, 1) := by decide +kernel
theorem dX0_init_61 : decode cX0_init 61 = .ok (.bipush 40, 2) := by decide +kernel
theorem dX0_init_63 : decode cX0_init 63 = .ok (.imul, 1) := by decide +kernel
theorem dX0_init_64 : decode cX0_init 64 = .ok (.newarray .long, 2) := by decide +kernel
theorem dX0_init_66 : decode cX0_init 66 = .ok (.putfield 32, 3) := by decide +kernel
theorem dX0_init_69 : decode cX0_init 69 = .ok (.aload_n 0, 1) := by decide +kernel
theorem dX0_init_70 : decode cX0_init 70 = .ok (.iload_n 3, 1) := by decide +kernel
theorem dX0_init_71 : decode cX0_init 71 = .ok (.bipush 40, 2) := by decide +kernel
theorem dX0_init_73 : decode cX0_init 73 = .ok (.imul, 1) := by decide +kernel
theorem dX0_init_74 : decode cX0_init 74 = .ok (.newarray .int, 2) := by decide +kernel
theorem dX0_init_76 : decode cX0_init 76 = .ok (.putfield 35, 3) := by decide +kernel
theorem dX0_init_79 : decode cX0_init 79 = .ok (.aload_n 0, 1) := by decide +kernel
theorem dX0_init_80 : decode cX0_init 80 = .ok (.iload_n 3, 1) := by decide +kernel
theorem dX0_init_81 : decode cX0_init 81 = .ok (.newarray .int, 2) := by decide +kernel
theorem dX0_init_83 : decode cX0_init 83 = .ok (.putfield 39, 3) := by decide +kernel
theorem dX0_init_86 : decode cX0_init 86 = .ok (.aload_n 0, 1) := by decide +kernel
theorem dX0_init_87 : decode cX0_init 87 = .ok (.iload_n 3, 1) := by decide +kernel
theorem dX0_init_88 : decode cX0_init 88 = .ok (.newarray .int, 2) := by decide +kernel
theorem dX0_init_90 : decode cX0_init 90 = .ok (.putfield 42, 3) := by decide +kernel
theorem dX0_init_93 : decode cX0_init 93 = .ok (.aload_n 0, 1) := by decide +kernel
theorem dX0_init_94 : decode cX0_init 94 = .ok (.iload_n 3, 1) := by decide +kernel
theorem dX0_init_95 : decode cX0_init 95 = .ok (.newarray .int, 2) := by decide +kernel
theorem dX0_init_97 : decode cX0_init 97 = .ok (.putfield 45, 3) := by decide +kernel
theorem dX0_init_100 : decode cX0_init 100 = .ok (.return_, 1) := by decide +kernel
theorem dX0_column_0 : decode cX0_column 0 = .ok (.iload_n 1, 1) := by decide +kernel
theorem dX0_column_1 : decode cX0_column 1 = .ok (.ifCond .lt 23, 3) := by decide +kernel
theorem dX0_column_4 : decode cX0_column 4 = .ok (.iload_n 1, 1) := by decide +kernel
theorem dX0_column_5 : decode cX0_column 5 = .ok (.aload_n 0, 1) := by decide +kernel
theorem dX0_column_6 : decode cX0_column 6 = .ok (.getfield 18, 3) := by decide +kernel
theorem dX0_column_9 : decode cX0_column 9 = .ok (.if_icmp .ge 15, 3) := by decide +kernel
theorem dX0_column_12 : decode cX0_column 12 = .ok (.iload_n 2, 1) := by decide +kernel
theorem dX0_column_13 : decode cX0_column 13 = .ok (.ifCond .lt 11, 3) := by decide +kernel
theorem dX0_column_16 : decode cX0_column 16 = .ok (.iload_n 2, 1) := by decide +kernel
theorem dX0_column_17 : decode cX0_column 17 = .ok (.aload_n 0, 1) := by decide +kernel
theorem dX0_column_18 : decode cX0_column 18 = .ok (.getfield 22, 3) := by decide +kernel
theorem dX0_column_21 : decode cX0_column 21 = .ok (.if_icmp .lt 13, 3) := by decide +kernel
theorem dX0_column_24 : decode cX0_column 24 = .ok (.new 48, 3) := by decide +kernel
theorem dX0_column_27 : decode cX0_column 27 = .ok (.dup, 1) := by decide +kernel
theorem dX0_column_28 : decode cX0_column 28 = .ok (.ldc 50, 2) := by decide +kernel
theorem dX0_column_30 : decode cX0_column 30 = .ok (.invokespecial 52, 3) := by decide +kernel
theorem dX0_column_33 : decode cX0_column 33 = .ok (.athrow, 1) := by decide +kernel
theorem dX0_column_34 : decode cX0_column 34 = .ok (.iload_n 3, 1) := by decide +kernel
theorem dX0_column_35 : decode cX0_column 35 = .ok (.ifCond .eq 30, 3) := by decide +kernel
theorem dX0_column_38 : decode cX0_column 38 = .ok (.aload_n 0, 1) := by decide +kernel
theorem dX0_column_39 : decode cX0_column 39 = .ok (.getfield 25, 3) := by decide +kernel
theorem dX0_column_42 : decode cX0_column 42 = .ok (.iload_n 1, 1) := by decide +kernel
theorem dX0_column_43 : decode cX0_column 43 = .ok (.dup2, 1) := by decide +kernel
theorem dX0_column_44 : decode cX0_column 44 = .ok (.laload, 1) := by decide +kernel
theorem dX0_column_45 : decode cX0_column 45 = .ok (.lconst 1, 1) := by decide +kernel
theorem dX0_column_46 : decode cX0_column 46 = .ok (.iload_n 2, 1) := by decide +kernel
theorem dX0_column_47 : decode cX0_column 47 = .ok (.lshl, 1) := by decide +kernel
theorem dX0_column_48 : decode cX0_column 48 = .ok (.lor, 1) := by decide +kernel
theorem dX0_column_49 : decode cX0_column 49 = .ok (.lastore, 1) := by decide +kernel
theorem dX0_column_50 : decode cX0_column 50 = .ok (.aload_n 0, 1) := by decide +kernel
theorem dX0_column_51 : decode cX0_column 51 = .ok (.getfield 29, 3) := by decide +kernel
theorem dX0_column_54 : decode cX0_column 54 = .ok (.iload_n 2, 1) := by decide +kernel
theorem dX0_column_55 : decode cX0_column 55 = .ok (.dup2, 1) := by decide +kernel
theorem dX0_column_56 : decode cX0_column 56 = .ok (.laload, 1) := by decide +kernel
theorem dX0_column_57 : decode cX0_column 57 = .ok (.lconst 1, 1) := by decide +kernel
theorem dX0_column_58 : decode cX0_column 58 = .ok (.iload_n 1, 1) := by decide +kernel
theorem dX0_column_59 : decode cX0_column 59 = .ok (.lshl, 1) := by decide +kernel
theorem dX0_column_60 : decode cX0_column 60 = .ok (.lor, 1) := by decide +kernel
theorem dX0_column_61 : decode cX0_column 61 = .ok (.lastore, 1) := by decide +kernel
theorem dX0_column_62 : decode cX0_column 62 = .ok (.goto 35, 3) := by decide +kernel
theorem dX0_column_65 : decode cX0_column 65 = .ok (.aload_n 0, 1) := by decide +kernel
theorem dX0_column_66 : decode cX0_column 66 = .ok (.getfield 25, 3) := by decide +kernel
theorem dX0_column_69 : decode cX0_column 69 = .ok (.iload_n 1, 1) := by decide +kernel
theorem dX0_column_70 : decode cX0_column 70 = .ok (.dup2, 1) := by decide +kernel
theorem dX0_column_71 : decode cX0_column 71 = .ok (.laload, 1) := by decide +kernel
theorem dX0_column_72 : decode cX0_column 72 = .ok (.lconst 1, 1) := by decide +kernel
theorem dX0_column_73 : decode cX0_column 73 = .ok (.iload_n 2, 1) := by decide +kernel
theorem dX0_column_74 : decode cX0_column 74 = .ok (.lshl, 1) := by decide +kernel
theorem dX0_column_75 : decode cX0_column 75 = .ok (.ldc2_w 55, 3) := by decide +kernel
theorem dX0_column_78 : decode cX0_column 78 = .ok (.lxor, 1) := by decide +kernel
theorem dX0_column_79 : decode cX0_column 79 = .ok (.land, 1) := by decide +kernel
theorem dX0_column_80 : decode cX0_column 80 = .ok (.lastore, 1) := by decide +kernel
theorem dX0_column_81 : decode cX0_column 81 = .ok (.aload_n 0, 1) := by decide +kernel
theorem dX0_column_82 : decode cX0_column 82 = .ok (.getfield 29, 3) := by decide +kernel
theorem dX0_column_85 : decode cX0_column 85 = .ok (.iload_n 2, 1) := by decide +kernel
theorem dX0_column_86 : decode cX0_column 86 = .ok (.dup2, 1) := by decide +kernel
theorem dX0_column_87 : decode cX0_column 87 = .ok (.laload, 1) := by decide +kernel
theorem dX0_column_88 : decode cX0_column 88 = .ok (.lconst 1, 1) := by decide +kernel
theorem dX0_column_89 : decode cX0_column 89 = .ok (.iload_n 1, 1) := by decide +kernel
theorem dX0_column_90 : decode cX0_column 90 = .ok (.lshl, 1) := by decide +kernel
theorem dX0_column_91 : decode cX0_column 91 = .ok (.ldc2_w 55, 3) := by decide +kernel
theorem dX0_column_94 : decode cX0_column 94 = .ok (.lxor, 1) := by decide +kernel
theorem dX0_column_95 : decode cX0_column 95 = .ok (.land, 1) := by decide +kernel
theorem dX0_column_96 : decode cX0_column 96 = .ok (.lastore, 1) := by decide +kernel
theorem dX0_column_97 : decode cX0_column 97 = .ok (.return_, 1) := by decide +kernel
set_option maxRecDepth 20000 in
theorem ggX0_cut_X0_firstDarkColumn : GoodIn wsX0_cut wsX0_firstDarkColumn := goodIn_r _ [8, 9, 10, 91, 92, 93, 94, 95, 96, 97, 98, 99, 100, 101] (by decide +kernel) (by decide +kernel)
set_option maxRecDepth 20000 in
theorem gX0_cut_X0_firstDarkColumn : GoodIn wsX0_cut (wsV RX0 57 RX0 yX0_firstDarkColumn wsX0_firstDarkColumn) := goodIn_app (goodIn_of _ (by decide +kernel)) ggX0_cut_X0_firstDarkColumn
set_option maxRecDepth 20000 in
theorem ggX0_cut_X0_lastDarkColumn : GoodIn wsX0_cut wsX0_lastDarkColumn := goodIn_r _ [14, 9, 10, 91, 92, 93, 94, 95, 96, 97, 98, 99, 100, 101] (by decide +kernel) (by decide +kernel)
set_option maxRecDepth 20000 in
theorem gX0_cut_X0_lastDarkColumn : GoodIn wsX0_cut (wsV RX0 64 RX0 yX0_lastDarkColumn wsX0_lastDarkColumn) := goodIn_app (goodIn_of _ (by decide +kernel)) ggX0_cut_X0_lastDarkColumn
set_option maxRecDepth 20000 in
theorem ggX0_cut_X0_shelveUntil : GoodIn wsX0_cut wsX0_shelveUntil := goodIn_r _ [18, 19, 20, 3, 21, 22, 7, 23, 91, 92, 93, 94, 95, 96, 97, 98, 99, 100, 101] (by decide +kernel) (by decide +kernel)
set_option maxRecDepth 20000 in
theorem gX0_cut_X0_shelveUntil : GoodIn wsX0_cut (wsV RX0 67 RX0 yX0_shelveUntil wsX0_shelveUntil) := goodIn_app (goodIn_of _ (by decide +kernel)) ggX0_cut_X0_shelveUntil
set_option maxRecDepth 20000 in
theorem ggX0_cut_X0_shelveEnds : GoodIn wsX0_cut wsX0_shelveEnds := goodIn_r _ [27, 28, 29, 30, 7, 31, 32, 33, 34, 35, 36, 37, 38, 39, 40, 41, 42, 43, 44, 45, 46, 47, 48, 49, 50, 51, 52, 53, 54, 55, 56, 57, 58, 59, 60, 61, 62, 63, 64, 10, 65, 66, 67, 68, 69, 70, 71, 72, 73, 74, 75, 3, 76, 77, 78, 79, 80, 81, 82, 83, 20, 19, 21, 22, 23, 84, 85, 86, 87, 88, 89, 90, 91, 92, 93, 94, 95, 96, 97, 98, 99, 100, 101] (by decide +kernel) (by decide +kernel)
set_option maxRecDepth 20000 in
theorem gX0_cut_X0_shelveEnds : GoodIn wsX0_cut (wsV RX0 71 RX0 yX0_shelveEnds wsX0_shelveEnds) := goodIn_app (goodIn_of _ (by decide +kernel)) ggX0_cut_X0_shelveEnds
theorem dX0_cut_0 : decode cX0_cut 0 = .ok (.iload_n 1, 1) := by decide +kernel
theorem dX0_cut_1 : decode cX0_cut 1 = .ok (.iconst 1, 1) := by decide +kernel
theorem dX0_cut_2 : decode cX0_cut 2 = .ok (.if_icmp .lt 9, 3) := by decide +kernel
theorem dX0_cut_5 : decode cX0_cut 5 = .ok (.iload_n 1, 1) := by decide +kernel
theorem dX0_cut_6 : decode cX0_cut 6 = .ok (.bipush 40, 2) := by decide +kernel
theorem dX0_cut_8 : decode cX0_cut 8 = .ok (.if_icmp .le 5, 3) := by decide +kernel
theorem dX0_cut_11 : decode cX0_cut 11 = .ok (.iconst (-1), 1) := by decide +kernel
theorem dX0_cut_12 : decode cX0_cut 12 = .ok (.ireturn, 1) := by decide +kernel
theorem dX0_cut_13 : decode cX0_cut 13 = .ok (.aload_n 0, 1) := by decide +kernel
theorem dX0_cut_14 : decode cX0_cut 14 = .ok (.invokevirtual 57, 3) := by decide +kernel
theorem dX0_cut_17 : decode cX0_cut 17 = .ok (.istore_n 2, 1) := by decide +kernel
theorem dX0_cut_18 : decode cX0_cut 18 = .ok (.iload_n 2, 1) := by decide +kernel
theorem dX0_cut_19 : decode cX0_cut 19 = .ok (.iconst (-1), 1) := by decide +kernel
theorem dX0_cut_20 : decode cX0_cut 20 = .ok (.if_icmp .ne 10, 3) := by decide +kernel
theorem dX0_cut_23 : decode cX0_cut 23 = .ok (.aload_n 0, 1) := by decide +kernel
theorem dX0_cut_24 : decode cX0_cut 24 = .ok (.iconst 0, 1) := by decide +kernel
theorem dX0_cut_25 : decode cX0_cut 25 = .ok (.putfield 61, 3) := by decide +kernel
theorem dX0_cut_28 : decode cX0_cut 28 = .ok (.iconst 0, 1) := by decide +kernel
theorem dX0_cut_29 : decode cX0_cut 29 = .ok (.ireturn, 1) := by decide +kernel
theorem dX0_cut_30 : decode cX0_cut 30 = .ok (.aload_n 0, 1) := by decide +kernel
theorem dX0_cut_31 : decode cX0_cut 31 = .ok (.invokevirtual 64, 3) := by decide +kernel
theorem dX0_cut_34 : decode cX0_cut 34 = .ok (.iconst 1, 1) := by decide +kernel
theorem dX0_cut_35 : decode cX0_cut 35 = .ok (.iadd, 1) := by decide +kernel
theorem dX0_cut_36 : decode cX0_cut 36 = .ok (.istore_n 3, 1) := by decide +kernel
theorem dX0_cut_37 : decode cX0_cut 37 = .ok (.aload_n 0, 1) := by decide +kernel
theorem dX0_cut_38 : decode cX0_cut 38 = .ok (.iload_n 3, 1) := by decide +kernel
theorem dX0_cut_39 : decode cX0_cut 39 = .ok (.invokevirtual 67, 3) := by decide +kernel
theorem dX0_cut_42 : decode cX0_cut 42 = .ok (.aload_n 0, 1) := by decide +kernel
theorem dX0_cut_43 : decode cX0_cut 43 = .ok (.iload_n 2, 1) := by decide +kernel
theorem dX0_cut_44 : decode cX0_cut 44 = .ok (.iload_n 3, 1) := by decide +kernel
theorem dX0_cut_45 : decode cX0_cut 45 = .ok (.iload_n 1, 1) := by decide +kernel
theorem dX0_cut_46 : decode cX0_cut 46 = .ok (.invokevirtual 71, 3) := by decide +kernel
theorem dX0_cut_49 : decode cX0_cut 49 = .ok (.aload_n 0, 1) := by decide +kernel
theorem dX0_cut_50 : decode cX0_cut 50 = .ok (.iload_n 2, 1) := by decide +kernel
theorem dX0_cut_51 : decode cX0_cut 51 = .ok (.putfield 75, 3) := by decide +kernel
theorem dX0_cut_54 : decode cX0_cut 54 = .ok (.aload_n 0, 1) := by decide +kernel
theorem dX0_cut_55 : decode cX0_cut 55 = .ok (.aload_n 0, 1) := by decide +kernel
theorem dX0_cut_56 : decode cX0_cut 56 = .ok (.getfield 39, 3) := by decide +kernel
theorem dX0_cut_59 : decode cX0_cut 59 = .ok (.iload_n 2, 1) := by decide +kernel
theorem dX0_cut_60 : decode cX0_cut 60 = .ok (.iaload, 1) := by decide +kernel
theorem dX0_cut_61 : decode cX0_cut 61 = .ok (.putfield 61, 3) := by decide +kernel
theorem dX0_cut_64 : decode cX0_cut 64 = .ok (.aload_n 0, 1) := by decide +kernel
theorem dX0_cut_65 : decode cX0_cut 65 = .ok (.getfield 61, 3) := by decide +kernel
theorem dX0_cut_68 : decode cX0_cut 68 = .ok (.ireturn, 1) := by decide +kernel
set_option maxRecDepth 20000 in
theorem ggX0_way_X0_isFound : GoodIn wsX0_way wsX0_isFound := goodIn_r _ [8, 9, 16, 17, 18, 19, 20, 21, 22, 23, 24, 25, 26] (by decide +kernel) (by decide +kernel)
set_option maxRecDepth 20000 in
theorem gX0_way_X0_isFound : GoodIn wsX0_way (wsV RX0 78 RX0 yX0_isFound wsX0_isFound) := goodIn_app (goodIn_of _ (by decide +kernel)) ggX0_way_X0_isFound
set_option maxRecDepth 20000 in
theorem ggX0_way_X0_shelf : GoodIn wsX0_way wsX0_shelf := goodIn_r _ [12] (by decide +kernel) (by decide +kernel)
set_option maxRecDepth 20000 in
theorem gX0_way_X0_shelf : GoodIn wsX0_way (va_wsS RX0 82 yX0_shelf wsX0_shelf) := goodIn_app (goodIn_of _ (by decide +kernel)) ggX0_way_X0_shelf
set_option maxRecDepth 20000 in
theorem ggX0_way_X0_has : GoodIn wsX0_way wsX0_has := goodIn_r _ [15] (by decide +kernel) (by decide +kernel)
set_option maxRecDepth 20000 in
theorem gX0_way_X0_has : GoodIn wsX0_way (va_wsS RX0 86 yX0_has wsX0_has) := goodIn_app (goodIn_of _ (by decide +kernel)) ggX0_way_X0_has
theorem dX0_way_0 : decode cX0_way 0 = .ok (.aload_n 0, 1) := by decide +kernel
theorem dX0_way_1 : decode cX0_way 1 = .ok (.iload_n 1, 1) := by decide +kernel
theorem dX0_way_2 : decode cX0_way 2 = .ok (.invokevirtual 78, 3) := by decide +kernel
theorem dX0_way_5 : decode cX0_way 5 = .ok (.ifCond .eq 7, 3) := by decide +kernel
theorem dX0_way_8 : decode cX0_way 8 = .ok (.iload_n 2, 1) := by decide +kernel
theorem dX0_way_9 : decode cX0_way 9 = .ok (.ifCond .ge 5, 3) := by decide +kernel
theorem dX0_way_12 : decode cX0_way 12 = .ok (.iconst (-1), 1) := by decide +kernel
theorem dX0_way_13 : decode cX0_way 13 = .ok (.ireturn, 1) := by decide +kernel
theorem dX0_way_14 : decode cX0_way 14 = .ok (.aload_n 0, 1) := by decide +kernel
theorem dX0_way_15 : decode cX0_way 15 = .ok (.getfield 32, 3) := by decide +kernel
theorem dX0_way_18 : decode cX0_way 18 = .ok (.aload_n 0, 1) := by decide +kernel
theorem dX0_way_19 : decode cX0_way 19 = .ok (.getfield 75, 3) := by decide +kernel
theorem dX0_way_22 : decode cX0_way 22 = .ok (.invokestatic 82, 3) := by decide +kernel
theorem dX0_way_25 : decode cX0_way 25 = .ok (.iload_n 1, 1) := by decide +kernel
theorem dX0_way_26 : decode cX0_way 26 = .ok (.iadd, 1) := by decide +kernel
theorem dX0_way_27 : decode cX0_way 27 = .ok (.laload, 1) := by decide +kernel
theorem dX0_way_28 : decode cX0_way 28 = .ok (.lstore_n 3, 1) := by decide +kernel
theorem dX0_way_29 : decode cX0_way 29 = .ok (.iconst 0, 1) := by decide +kernel
theorem dX0_way_30 : decode cX0_way 30 = .ok (.istore 5, 2) := by decide +kernel
theorem dX0_way_32 : decode cX0_way 32 = .ok (.iconst 0, 1) := by decide +kernel
theorem dX0_way_33 : decode cX0_way 33 = .ok (.istore 6, 2) := by decide +kernel
theorem dX0_way_35 : decode cX0_way 35 = .ok (.iload 6, 2) := by decide +kernel
theorem dX0_way_37 : decode cX0_way 37 = .ok (.aload_n 0, 1) := by decide +kernel
theorem dX0_way_38 : decode cX0_way 38 = .ok (.getfield 18, 3) := by decide +kernel
theorem dX0_way_41 : decode cX0_way 41 = .ok (.if_icmp .gt 30, 3) := by decide +kernel
theorem dX0_way_44 : decode cX0_way 44 = .ok (.lload_n 3, 1) := by decide +kernel
theorem dX0_way_45 : decode cX0_way 45 = .ok (.iload 6, 2) := by decide +kernel
theorem dX0_way_47 : decode cX0_way 47 = .ok (.invokestatic 86, 3) := by decide +kernel
theorem dX0_way_50 : decode cX0_way 50 = .ok (.ifCond .eq 15, 3) := by decide +kernel
theorem dX0_way_53 : decode cX0_way 53 = .ok (.iload 5, 2) := by decide +kernel
theorem dX0_way_55 : decode cX0_way 55 = .ok (.iload_n 2, 1) := by decide +kernel
theorem dX0_way_56 : decode cX0_way 56 = .ok (.if_icmp .ne 6, 3) := by decide +kernel
theorem dX0_way_59 : decode cX0_way 59 = .ok (.iload 6, 2) := by decide +kernel
theorem dX0_way_61 : decode cX0_way 61 = .ok (.ireturn, 1) := by decide +kernel
theorem dX0_way_62 : decode cX0_way 62 = .ok (.iinc 5 1, 3) := by decide +kernel
theorem dX0_way_65 : decode cX0_way 65 = .ok (.iinc 6 1, 3) := by decide +kernel
theorem dX0_way_68 : decode cX0_way 68 = .ok (.goto (-33), 3) := by decide +kernel
theorem dX0_way_71 : decode cX0_way 71 = .ok (.iconst (-1), 1) := by decide +kernel
theorem dX0_way_72 : decode cX0_way 72 = .ok (.ireturn, 1) := by decide +kernel
set_option maxRecDepth 20000 in
theorem ggX0_cost_X0_isFound : GoodIn wsX0_cost wsX0_isFound := goodIn_r _ [8, 9, 13, 14, 15, 16, 17, 18, 19, 20, 21, 22, 23] (by decide +kernel) (by decide +kernel)
set_option maxRecDepth 20000 in
theorem gX0_cost_X0_isFound : GoodIn wsX0_cost (wsV RX0 78 RX0 yX0_isFound wsX0_isFound) := goodIn_app (goodIn_of _ (by decide +kernel)) ggX0_cost_X0_isFound
set_option maxRecDepth 20000 in
theorem ggX0_cost_X0_shelf : GoodIn wsX0_cost wsX0_shelf := goodIn_r _ [12] (by decide +kernel) (by decide +kernel)
set_option maxRecDepth 20000 in
theorem gX0_cost_X0_shelf : GoodIn wsX0_cost (va_wsS RX0 82 yX0_shelf wsX0_shelf) := goodIn_app (goodIn_of _ (by decide +kernel)) ggX0_cost_X0_shelf
theorem dX0_cost_0 : decode cX0_cost 0 = .ok (.aload_n 0, 1) := by decide +kernel
theorem dX0_cost_1 : decode cX0_cost 1 = .ok (.iload_n 1, 1) := by decide +kernel
theorem dX0_cost_2 : decode cX0_cost 2 = .ok (.invokevirtual 78, 3) := by decide +kernel
theorem dX0_cost_5 : decode cX0_cost 5 = .ok (.ifCond .eq 21, 3) := by decide +kernel
theorem dX0_cost_8 : decode cX0_cost 8 = .ok (.aload_n 0, 1) := by decide +kernel
theorem dX0_cost_9 : decode cX0_cost 9 = .ok (.getfield 35, 3) := by decide +kernel
theorem dX0_cost_12 : decode cX0_cost 12 = .ok (.aload_n 0, 1) := by decide +kernel
theorem dX0_cost_13 : decode cX0_cost 13 = .ok (.getfield 75, 3) := by decide +kernel
theorem dX0_cost_16 : decode cX0_cost 16 = .ok (.invokestatic 82, 3) := by decide +kernel
theorem dX0_cost_19 : decode cX0_cost 19 = .ok (.iload_n 1, 1) := by decide +kernel
theorem dX0_cost_20 : decode cX0_cost 20 = .ok (.iadd, 1) := by decide +kernel
theorem dX0_cost_21 : decode cX0_cost 21 = .ok (.iaload, 1) := by decide +kernel
theorem dX0_cost_22 : decode cX0_cost 22 = .ok (.i2l, 1) := by decide +kernel
theorem dX0_cost_23 : decode cX0_cost 23 = .ok (.goto 6, 3) := by decide +kernel
theorem dX0_cost_26 : decode cX0_cost 26 = .ok (.ldc2_w 55, 3) := by decide +kernel
theorem dX0_cost_29 : decode cX0_cost 29 = .ok (.lreturn, 1) := by decide +kernel
set_option maxRecDepth 20000 in
theorem ggX0_signs_X0_isFound : GoodIn wsX0_signs wsX0_isFound := goodIn_r _ [7, 8, 19, 20, 21, 22, 23, 24, 25, 26, 27, 28, 29] (by decide +kernel) (by decide +kernel)
set_option maxRecDepth 20000 in
theorem gX0_signs_X0_isFound : GoodIn wsX0_signs (wsV RX0 78 RX0 yX0_isFound wsX0_isFound) := goodIn_app (goodIn_of _ (by decide +kernel)) ggX0_signs_X0_isFound
set_option maxRecDepth 20000 in
theorem ggX0_signs_X0_shelf : GoodIn wsX0_signs wsX0_shelf := goodIn_r _ [11] (by decide +kernel) (by decide +kernel)
set_option maxRecDepth 20000 in
theorem gX0_signs_X0_shelf : GoodIn wsX0_signs (va_wsS RX0 82 yX0_shelf wsX0_shelf) := goodIn_app (goodIn_of _ (by decide +kernel)) ggX0_signs_X0_shelf
set_option maxRecDepth 20000 in
theorem ggX0_signs_J13_bitCount_95d88 : GoodIn wsX0_signs wsJ13_bitCount_95d88 := goodIn_r _ [15, 16, 17, 18] (by decide +kernel) (by decide +kernel)
set_option maxRecDepth 20000 in
theorem gX0_signs_J13_bitCount_95d88 : GoodIn wsX0_signs (va_wsS RX0 90 yJ13_bitCount_95d88 wsJ13_bitCount_95d88) := goodIn_app (goodIn_of _ (by decide +kernel)) ggX0_signs_J13_bitCount_95d88
theorem dX0_signs_0 : decode cX0_signs 0 = .ok (.aload_n 0, 1) := by decide +kernel
theorem dX0_signs_1 : decode cX0_signs 1 = .ok (.iload_n 1, 1) := by decide +kernel
theorem dX0_signs_2 : decode cX0_signs 2 = .ok (.invokevirtual 78, 3) := by decide +kernel
theorem dX0_signs_5 : decode cX0_signs 5 = .ok (.ifCond .eq 25, 3) := by decide +kernel
theorem dX0_signs_8 : decode cX0_signs 8 = .ok (.aload_n 0, 1) := by decide +kernel
theorem dX0_signs_9 : decode cX0_signs 9 = .ok (.getfield 32, 3) := by decide +kernel
theorem dX0_signs_12 : decode cX0_signs 12 = .ok (.aload_n 0, 1) := by decide +kernel
theorem dX0_signs_13 : decode cX0_signs 13 = .ok (.getfield 75, 3) := by decide +kernel
theorem dX0_signs_16 : decode cX0_signs 16 = .ok (.invokestatic 82, 3) := by decide +kernel
theorem dX0_signs_19 : decode cX0_signs 19 = .ok (.iload_n 1, 1) := by decide +kernel
theorem dX0_signs_20 : decode cX0_signs 20 = .ok (.iadd, 1) := by decide +kernel
theorem dX0_signs_21 : decode cX0_signs 21 = .ok (.laload, 1) := by decide +kernel
theorem dX0_signs_22 : decode cX0_signs 22 = .ok (.invokestatic 90, 3) := by decide +kernel
theorem dX0_signs_25 : decode cX0_signs 25 = .ok (.iconst 1, 1) := by decide +kernel
theorem dX0_signs_26 : decode cX0_signs 26 = .ok (.isub, 1) := by decide +kernel
theorem dX0_signs_27 : decode cX0_signs 27 = .ok (.goto 4, 3) := by decide +kernel
theorem dX0_signs_30 : decode cX0_signs 30 = .ok (.iconst (-1), 1) := by decide +kernel
theorem dX0_signs_31 : decode cX0_signs 31 = .ok (.ireturn, 1) := by decide +kernel
set_option maxRecDepth 20000 in
theorem ggX0_base_X0_firstDarkColumn : GoodIn wsX0_base wsX0_firstDarkColumn := goodIn_r _ [5, 6, 7, 53, 54, 55, 56, 57, 58, 59, 60, 61, 62, 63] (by decide +kernel) (by decide +kernel)
set_option maxRecDepth 20000 in
theorem gX0_base_X0_firstDarkColumn : GoodIn wsX0_base (wsV RX0 57 RX0 yX0_firstDarkColumn wsX0_firstDarkColumn) := goodIn_app (goodIn_of _ (by decide +kernel)) ggX0_base_X0_firstDarkColumn
set_option maxRecDepth 20000 in
theorem ggX0_base_X0_firstStrongRow : GoodIn wsX0_base wsX0_firstStrongRow := goodIn_r _ [11, 12, 13, 14, 15, 4, 16, 17, 18, 19, 20, 21, 22, 23, 24, 25, 26, 27, 28, 29, 30, 31, 32, 53, 54, 55, 56, 57, 58, 59, 60, 61, 62, 63] (by decide +kernel) (by decide +kernel)
set_option maxRecDepth 20000 in
theorem gX0_base_X0_firstStrongRow : GoodIn wsX0_base (wsV RX0 96 RX0 yX0_firstStrongRow wsX0_firstStrongRow) := goodIn_app (goodIn_of _ (by decide +kernel)) ggX0_base_X0_firstStrongRow
set_option maxRecDepth 20000 in
theorem ggX0_base_X0_lastStrongRow : GoodIn wsX0_base wsX0_lastStrongRow := goodIn_r _ [36, 12, 13, 14, 15, 4, 16, 17, 18, 19, 20, 21, 22, 23, 24, 25, 26, 27, 28, 29, 30, 31, 32, 53, 54, 55, 56, 57, 58, 59, 60, 61, 62, 63] (by decide +kernel) (by decide +kernel)
set_option maxRecDepth 20000 in
theorem gX0_base_X0_lastStrongRow : GoodIn wsX0_base (wsV RX0 99 RX0 yX0_lastStrongRow wsX0_lastStrongRow) := goodIn_app (goodIn_of _ (by decide +kernel)) ggX0_base_X0_lastStrongRow
set_option maxRecDepth 20000 in
theorem ggX0_base_X0_dueWidth : GoodIn wsX0_base wsX0_dueWidth := goodIn_r _ [40, 33, 34, 35, 4, 36, 12, 13, 14, 15, 16, 17, 18, 19, 20, 21, 22, 23, 24, 25, 26, 27, 28, 29, 30, 31, 32, 8, 9, 10, 11, 53, 54, 55, 56, 57, 58, 59, 60, 61, 62, 63] (by decide +kernel) (by decide +kernel)
set_option maxRecDepth 20000 in
theorem gX0_base_X0_dueWidth : GoodIn wsX0_base (wsV RX0 102 RX0 yX0_dueWidth wsX0_dueWidth) := goodIn_app (goodIn_of _ (by decide +kernel)) ggX0_base_X0_dueWidth
set_option maxRecDepth 20000 in
theorem ggX0_base_X0_lastDarkColumn : GoodIn wsX0_base wsX0_lastDarkColumn := goodIn_r _ [44, 6, 7, 53, 54, 55, 56, 57, 58, 59, 60, 61, 62, 63] (by decide +kernel) (by decide +kernel)
set_option maxRecDepth 20000 in
theorem gX0_base_X0_lastDarkColumn : GoodIn wsX0_base (wsV RX0 64 RX0 yX0_lastDarkColumn wsX0_lastDarkColumn) := goodIn_app (goodIn_of _ (by decide +kernel)) ggX0_base_X0_lastDarkColumn
set_option maxRecDepth 20000 in
theorem ggX0_base_X0_placesToCut : GoodIn wsX0_base wsX0_placesToCut := goodIn_r _ [48, 7, 49, 50, 51, 4, 52, 26, 27, 28, 29, 30, 31, 32, 53, 54, 55, 56, 57, 58, 59, 60, 61, 62, 63] (by decide +kernel) (by decide +kernel)
set_option maxRecDepth 20000 in
theorem gX0_base_X0_placesToCut : GoodIn wsX0_base (wsV RX0 105 RX0 yX0_placesToCut wsX0_placesToCut) := goodIn_app (goodIn_of _ (by decide +kernel)) ggX0_base_X0_placesToCut
set_option maxRecDepth 20000 in
theorem ggX0_base_J13_bitCount_95d88 : GoodIn wsX0_base wsJ13_bitCount_95d88 := goodIn_r _ [29, 30, 31, 32] (by decide +kernel) (by decide +kernel)
set_option maxRecDepth 20000 in
theorem gX0_base_J13_bitCount_95d88 : GoodIn wsX0_base (va_wsS RX0 90 yJ13_bitCount_95d88 wsJ13_bitCount_95d88) := goodIn_app (goodIn_of _ (by decide +kernel)) ggX0_base_J13_bitCount_95d88
theorem dX0_base_0 : decode cX0_base 0 = .ok (.aload_n 0, 1) := by decide +kernel
theorem dX0_base_1 : decode cX0_base 1 = .ok (.invokevirtual 57, 3) := by decide +kernel
theorem dX0_base_4 : decode cX0_base 4 = .ok (.iconst (-1), 1) := by decide +kernel
theorem dX0_base_5 : decode cX0_base 5 = .ok (.if_icmp .ne 5, 3) := by decide +kernel
end
section
theorem dX0_base_8 : decode cX0_base 8 = .ok (.iconst (-1), 1) := by decide +kernel
theorem dX0_base_9 : decode cX0_base 9 = .ok (.ireturn, 1) := by decide +kernel
theorem dX0_base_10 : decode cX0_base 10 = .ok (.iload_n 1, 1) := by decide +kernel
theorem dX0_base_11 : decode cX0_base 11 = .ok (.tableswitch 82 0 5 #[37, 42, 47, 52, 57, 64], 37) := by decide +kernel
theorem dX0_base_48 : decode cX0_base 48 = .ok (.aload_n 0, 1) := by decide +kernel
theorem dX0_base_49 : decode cX0_base 49 = .ok (.invokevirtual 96, 3) := by decide +kernel
theorem dX0_base_52 : decode cX0_base 52 = .ok (.ireturn, 1) := by decide +kernel
theorem dX0_base_53 : decode cX0_base 53 = .ok (.aload_n 0, 1) := by decide +kernel
theorem dX0_base_54 : decode cX0_base 54 = .ok (.invokevirtual 99, 3) := by decide +kernel
theorem dX0_base_57 : decode cX0_base 57 = .ok (.ireturn, 1) := by decide +kernel
theorem dX0_base_58 : decode cX0_base 58 = .ok (.aload_n 0, 1) := by decide +kernel
theorem dX0_base_59 : decode cX0_base 59 = .ok (.invokevirtual 102, 3) := by decide +kernel
theorem dX0_base_62 : decode cX0_base 62 = .ok (.ireturn, 1) := by decide +kernel
theorem dX0_base_63 : decode cX0_base 63 = .ok (.aload_n 0, 1) := by decide +kernel
theorem dX0_base_64 : decode cX0_base 64 = .ok (.invokevirtual 57, 3) := by decide +kernel
theorem dX0_base_67 : decode cX0_base 67 = .ok (.ireturn, 1) := by decide +kernel
theorem dX0_base_68 : decode cX0_base 68 = .ok (.aload_n 0, 1) := by decide +kernel
theorem dX0_base_69 : decode cX0_base 69 = .ok (.invokevirtual 64, 3) := by decide +kernel
theorem dX0_base_72 : decode cX0_base 72 = .ok (.iconst 1, 1) := by decide +kernel
theorem dX0_base_73 : decode cX0_base 73 = .ok (.iadd, 1) := by decide +kernel
theorem dX0_base_74 : decode cX0_base 74 = .ok (.ireturn, 1) := by decide +kernel
theorem dX0_base_75 : decode cX0_base 75 = .ok (.aload_n 0, 1) := by decide +kernel
theorem dX0_base_76 : decode cX0_base 76 = .ok (.aload_n 0, 1) := by decide +kernel
theorem dX0_base_77 : decode cX0_base 77 = .ok (.invokevirtual 57, 3) := by decide +kernel
theorem dX0_base_80 : decode cX0_base 80 = .ok (.aload_n 0, 1) := by decide +kernel
theorem dX0_base_81 : decode cX0_base 81 = .ok (.invokevirtual 64, 3) := by decide +kernel
theorem dX0_base_84 : decode cX0_base 84 = .ok (.iconst 1, 1) := by decide +kernel
theorem dX0_base_85 : decode cX0_base 85 = .ok (.iadd, 1) := by decide +kernel
theorem dX0_base_86 : decode cX0_base 86 = .ok (.invokevirtual 105, 3) := by decide +kernel
theorem dX0_base_89 : decode cX0_base 89 = .ok (.invokestatic 90, 3) := by decide +kernel
theorem dX0_base_92 : decode cX0_base 92 = .ok (.ireturn, 1) := by decide +kernel
theorem dX0_base_93 : decode cX0_base 93 = .ok (.iconst (-1), 1) := by decide +kernel
theorem dX0_base_94 : decode cX0_base 94 = .ok (.ireturn, 1) := by decide +kernel
set_option maxRecDepth 20000 in
theorem ggX0_slant_X0_shearedColumns : GoodIn wsX0_slant wsX0_shearedColumns := goodIn_r _ [5, 6, 7, 8, 9, 10, 11, 12, 13, 14, 15, 16, 17, 18, 19, 20, 21, 22, 23, 24, 25, 26, 27, 28, 29] (by decide +kernel) (by decide +kernel)
set_option maxRecDepth 20000 in
theorem gX0_slant_X0_shearedColumns : GoodIn wsX0_slant (wsV RX0 109 RX0 yX0_shearedColumns wsX0_shearedColumns) := goodIn_app (goodIn_of _ (by decide +kernel)) ggX0_slant_X0_shearedColumns
theorem dX0_slant_0 : decode cX0_slant 0 = .ok (.iconst 0, 1) := by decide +kernel
theorem dX0_slant_1 : decode cX0_slant 1 = .ok (.istore_n 1, 1) := by decide +kernel
theorem dX0_slant_2 : decode cX0_slant 2 = .ok (.aload_n 0, 1) := by decide +kernel
theorem dX0_slant_3 : decode cX0_slant 3 = .ok (.iconst 0, 1) := by decide +kernel
theorem dX0_slant_4 : decode cX0_slant 4 = .ok (.invokevirtual 109, 3) := by decide +kernel
theorem dX0_slant_7 : decode cX0_slant 7 = .ok (.istore_n 2, 1) := by decide +kernel
theorem dX0_slant_8 : decode cX0_slant 8 = .ok (.iconst 1, 1) := by decide +kernel
theorem dX0_slant_9 : decode cX0_slant 9 = .ok (.istore_n 3, 1) := by decide +kernel
theorem dX0_slant_10 : decode cX0_slant 10 = .ok (.iload_n 3, 1) := by decide +kernel
theorem dX0_slant_11 : decode cX0_slant 11 = .ok (.bipush 6, 2) := by decide +kernel
theorem dX0_slant_13 : decode cX0_slant 13 = .ok (.if_icmp .gt 47, 3) := by decide +kernel
theorem dX0_slant_16 : decode cX0_slant 16 = .ok (.aload_n 0, 1) := by decide +kernel
theorem dX0_slant_17 : decode cX0_slant 17 = .ok (.iload_n 3, 1) := by decide +kernel
theorem dX0_slant_18 : decode cX0_slant 18 = .ok (.ineg, 1) := by decide +kernel
theorem dX0_slant_19 : decode cX0_slant 19 = .ok (.invokevirtual 109, 3) := by decide +kernel
theorem dX0_slant_22 : decode cX0_slant 22 = .ok (.istore 4, 2) := by decide +kernel
theorem dX0_slant_24 : decode cX0_slant 24 = .ok (.iload 4, 2) := by decide +kernel
theorem dX0_slant_26 : decode cX0_slant 26 = .ok (.iload_n 2, 1) := by decide +kernel
theorem dX0_slant_27 : decode cX0_slant 27 = .ok (.if_icmp .ge 9, 3) := by decide +kernel
theorem dX0_slant_30 : decode cX0_slant 30 = .ok (.iload 4, 2) := by decide +kernel
theorem dX0_slant_32 : decode cX0_slant 32 = .ok (.istore_n 2, 1) := by decide +kernel
theorem dX0_slant_33 : decode cX0_slant 33 = .ok (.iload_n 3, 1) := by decide +kernel
theorem dX0_slant_34 : decode cX0_slant 34 = .ok (.ineg, 1) := by decide +kernel
theorem dX0_slant_35 : decode cX0_slant 35 = .ok (.istore_n 1, 1) := by decide +kernel
theorem dX0_slant_36 : decode cX0_slant 36 = .ok (.aload_n 0, 1) := by decide +kernel
theorem dX0_slant_37 : decode cX0_slant 37 = .ok (.iload_n 3, 1) := by decide +kernel
theorem dX0_slant_38 : decode cX0_slant 38 = .ok (.invokevirtual 109, 3) := by decide +kernel
theorem dX0_slant_41 : decode cX0_slant 41 = .ok (.istore 5, 2) := by decide +kernel
theorem dX0_slant_43 : decode cX0_slant 43 = .ok (.iload 5, 2) := by decide +kernel
theorem dX0_slant_45 : decode cX0_slant 45 = .ok (.iload_n 2, 1) := by decide +kernel
theorem dX0_slant_46 : decode cX0_slant 46 = .ok (.if_icmp .ge 8, 3) := by decide +kernel
theorem dX0_slant_49 : decode cX0_slant 49 = .ok (.iload 5, 2) := by decide +kernel
theorem dX0_slant_51 : decode cX0_slant 51 = .ok (.istore_n 2, 1) := by decide +kernel
theorem dX0_slant_52 : decode cX0_slant 52 = .ok (.iload_n 3, 1) := by decide +kernel
theorem dX0_slant_53 : decode cX0_slant 53 = .ok (.istore_n 1, 1) := by decide +kernel
theorem dX0_slant_54 : decode cX0_slant 54 = .ok (.iinc 3 1, 3) := by decide +kernel
theorem dX0_slant_57 : decode cX0_slant 57 = .ok (.goto (-47), 3) := by decide +kernel
theorem dX0_slant_60 : decode cX0_slant 60 = .ok (.iload_n 1, 1) := by decide +kernel
theorem dX0_slant_61 : decode cX0_slant 61 = .ok (.ireturn, 1) := by decide +kernel
set_option maxRecDepth 20000 in
theorem ggX0_plain_X0_firstDarkColumn : GoodIn wsX0_plain wsX0_firstDarkColumn := goodIn_r _ [7, 1, 8, 45, 46, 47, 48, 49, 50, 51, 52, 53, 54, 55] (by decide +kernel) (by decide +kernel)
set_option maxRecDepth 20000 in
theorem gX0_plain_X0_firstDarkColumn : GoodIn wsX0_plain (wsV RX0 57 RX0 yX0_firstDarkColumn wsX0_firstDarkColumn) := goodIn_app (goodIn_of _ (by decide +kernel)) ggX0_plain_X0_firstDarkColumn
set_option maxRecDepth 20000 in
theorem ggX0_plain_X0_lastDarkColumn : GoodIn wsX0_plain wsX0_lastDarkColumn := goodIn_r _ [12, 1, 8, 45, 46, 47, 48, 49, 50, 51, 52, 53, 54, 55] (by decide +kernel) (by decide +kernel)
set_option maxRecDepth 20000 in
theorem gX0_plain_X0_lastDarkColumn : GoodIn wsX0_plain (wsV RX0 64 RX0 yX0_lastDarkColumn wsX0_lastDarkColumn) := goodIn_app (goodIn_of _ (by decide +kernel)) ggX0_plain_X0_lastDarkColumn
set_option maxRecDepth 20000 in
theorem ggX0_plain_X0_placesToCut : GoodIn wsX0_plain wsX0_placesToCut := goodIn_r _ [16, 8, 17, 18, 19, 6, 20, 21, 22, 23, 24, 25, 26, 27, 45, 46, 47, 48, 49, 50, 51, 52, 53, 54, 55] (by decide +kernel) (by decide +kernel)
set_option maxRecDepth 20000 in
theorem gX0_plain_X0_placesToCut : GoodIn wsX0_plain (wsV RX0 105 RX0 yX0_placesToCut wsX0_placesToCut) := goodIn_app (goodIn_of _ (by decide +kernel)) ggX0_plain_X0_placesToCut
set_option maxRecDepth 20000 in
theorem ggX0_plain_X0_lengthenTails : GoodIn wsX0_plain wsX0_lengthenTails := goodIn_r _ [31, 32, 8, 2, 33, 34, 35, 36, 37, 38, 39, 40, 41, 42, 43, 6, 44, 45, 46, 47, 48, 49, 50, 51, 52, 53, 54, 55] (by decide +kernel) (by decide +kernel)
set_option maxRecDepth 20000 in
theorem gX0_plain_X0_lengthenTails : GoodIn wsX0_plain (wsV RX0 112 RX0 yX0_lengthenTails wsX0_lengthenTails) := goodIn_app (goodIn_of _ (by decide +kernel)) ggX0_plain_X0_lengthenTails
theorem dX0_plain_0 : decode cX0_plain 0 = .ok (.aload_n 0, 1) := by decide +kernel
theorem dX0_plain_1 : decode cX0_plain 1 = .ok (.invokevirtual 57, 3) := by decide +kernel
theorem dX0_plain_4 : decode cX0_plain 4 = .ok (.istore_n 2, 1) := by decide +kernel
theorem dX0_plain_5 : decode cX0_plain 5 = .ok (.iload_n 2, 1) := by decide +kernel
theorem dX0_plain_6 : decode cX0_plain 6 = .ok (.iconst (-1), 1) := by decide +kernel
theorem dX0_plain_7 : decode cX0_plain 7 = .ok (.if_icmp .eq 16, 3) := by decide +kernel
theorem dX0_plain_10 : decode cX0_plain 10 = .ok (.iload_n 1, 1) := by decide +kernel
theorem dX0_plain_11 : decode cX0_plain 11 = .ok (.iconst 1, 1) := by decide +kernel
theorem dX0_plain_12 : decode cX0_plain 12 = .ok (.if_icmp .lt 11, 3) := by decide +kernel
theorem dX0_plain_15 : decode cX0_plain 15 = .ok (.iload_n 1, 1) := by decide +kernel
theorem dX0_plain_16 : decode cX0_plain 16 = .ok (.aload_n 0, 1) := by decide +kernel
theorem dX0_plain_17 : decode cX0_plain 17 = .ok (.getfield 18, 3) := by decide +kernel
theorem dX0_plain_20 : decode cX0_plain 20 = .ok (.if_icmp .le 5, 3) := by decide +kernel
theorem dX0_plain_23 : decode cX0_plain 23 = .ok (.iconst 0, 1) := by decide +kernel
theorem dX0_plain_24 : decode cX0_plain 24 = .ok (.ireturn, 1) := by decide +kernel
theorem dX0_plain_25 : decode cX0_plain 25 = .ok (.aload_n 0, 1) := by decide +kernel
theorem dX0_plain_26 : decode cX0_plain 26 = .ok (.invokevirtual 64, 3) := by decide +kernel
theorem dX0_plain_29 : decode cX0_plain 29 = .ok (.iconst 1, 1) := by decide +kernel
theorem dX0_plain_30 : decode cX0_plain 30 = .ok (.iadd, 1) := by decide +kernel
theorem dX0_plain_31 : decode cX0_plain 31 = .ok (.istore_n 3, 1) := by decide +kernel
theorem dX0_plain_32 : decode cX0_plain 32 = .ok (.aload_n 0, 1) := by decide +kernel
theorem dX0_plain_33 : decode cX0_plain 33 = .ok (.iload_n 2, 1) := by decide +kernel
theorem dX0_plain_34 : decode cX0_plain 34 = .ok (.iload_n 3, 1) := by decide +kernel
theorem dX0_plain_35 : decode cX0_plain 35 = .ok (.invokevirtual 105, 3) := by decide +kernel
theorem dX0_plain_38 : decode cX0_plain 38 = .ok (.lstore 4, 2) := by decide +kernel
theorem dX0_plain_40 : decode cX0_plain 40 = .ok (.iconst 0, 1) := by decide +kernel
theorem dX0_plain_41 : decode cX0_plain 41 = .ok (.istore 6, 2) := by decide +kernel
theorem dX0_plain_43 : decode cX0_plain 43 = .ok (.iload 6, 2) := by decide +kernel
theorem dX0_plain_45 : decode cX0_plain 45 = .ok (.iload_n 3, 1) := by decide +kernel
theorem dX0_plain_46 : decode cX0_plain 46 = .ok (.if_icmp .gt 17, 3) := by decide +kernel
theorem dX0_plain_49 : decode cX0_plain 49 = .ok (.aload_n 0, 1) := by decide +kernel
theorem dX0_plain_50 : decode cX0_plain 50 = .ok (.getfield 42, 3) := by decide +kernel
theorem dX0_plain_53 : decode cX0_plain 53 = .ok (.iload 6, 2) := by decide +kernel
theorem dX0_plain_55 : decode cX0_plain 55 = .ok (.iconst 1, 1) := by decide +kernel
theorem dX0_plain_56 : decode cX0_plain 56 = .ok (.iastore, 1) := by decide +kernel
theorem dX0_plain_57 : decode cX0_plain 57 = .ok (.iinc 6 1, 3) := by decide +kernel
theorem dX0_plain_60 : decode cX0_plain 60 = .ok (.goto (-17), 3) := by decide +kernel
theorem dX0_plain_63 : decode cX0_plain 63 = .ok (.iconst 1, 1) := by decide +kernel
theorem dX0_plain_64 : decode cX0_plain 64 = .ok (.istore 6, 2) := by decide +kernel
theorem dX0_plain_66 : decode cX0_plain 66 = .ok (.iload 6, 2) := by decide +kernel
theorem dX0_plain_68 : decode cX0_plain 68 = .ok (.iload_n 1, 1) := by decide +kernel
theorem dX0_plain_69 : decode cX0_plain 69 = .ok (.if_icmp .ge 17, 3) := by decide +kernel
theorem dX0_plain_72 : decode cX0_plain 72 = .ok (.aload_n 0, 1) := by decide +kernel
theorem dX0_plain_73 : decode cX0_plain 73 = .ok (.iload_n 2, 1) := by decide +kernel
theorem dX0_plain_74 : decode cX0_plain 74 = .ok (.iload_n 3, 1) := by decide +kernel
theorem dX0_plain_75 : decode cX0_plain 75 = .ok (.lload 4, 2) := by decide +kernel
theorem dX0_plain_77 : decode cX0_plain 77 = .ok (.invokevirtual 112, 3) := by decide +kernel
theorem dX0_plain_80 : decode cX0_plain 80 = .ok (.iinc 6 1, 3) := by decide +kernel
theorem dX0_plain_83 : decode cX0_plain 83 = .ok (.goto (-17), 3) := by decide +kernel
theorem dX0_plain_86 : decode cX0_plain 86 = .ok (.aload_n 0, 1) := by decide +kernel
theorem dX0_plain_87 : decode cX0_plain 87 = .ok (.getfield 42, 3) := by decide +kernel
theorem dX0_plain_90 : decode cX0_plain 90 = .ok (.iload_n 2, 1) := by decide +kernel
theorem dX0_plain_91 : decode cX0_plain 91 = .ok (.iconst 1, 1) := by decide +kernel
theorem dX0_plain_92 : decode cX0_plain 92 = .ok (.iadd, 1) := by decide +kernel
theorem dX0_plain_93 : decode cX0_plain 93 = .ok (.iaload, 1) := by decide +kernel
theorem dX0_plain_94 : decode cX0_plain 94 = .ok (.ireturn, 1) := by decide +kernel
theorem dX0_has_0 : decode cX0_has 0 = .ok (.lload_n 0, 1) := by decide +kernel
theorem dX0_has_1 : decode cX0_has 1 = .ok (.iload_n 2, 1) := by decide +kernel
theorem dX0_has_2 : decode cX0_has 2 = .ok (.lushr, 1) := by decide +kernel
theorem dX0_has_3 : decode cX0_has 3 = .ok (.lconst 1, 1) := by decide +kernel
theorem dX0_has_4 : decode cX0_has 4 = .ok (.land, 1) := by decide +kernel
theorem dX0_has_5 : decode cX0_has 5 = .ok (.lconst 0, 1) := by decide +kernel
theorem dX0_has_6 : decode cX0_has 6 = .ok (.lcmp, 1) := by decide +kernel
theorem dX0_has_7 : decode cX0_has 7 = .ok (.ifCond .eq 7, 3) := by decide +kernel
theorem dX0_has_10 : decode cX0_has 10 = .ok (.iconst 1, 1) := by decide +kernel
theorem dX0_has_11 : decode cX0_has 11 = .ok (.goto 4, 3) := by decide +kernel
theorem dX0_has_14 : decode cX0_has 14 = .ok (.iconst 0, 1) := by decide +kernel
theorem dX0_has_15 : decode cX0_has 15 = .ok (.ireturn, 1) := by decide +kernel
theorem dX0_firstDarkColumn_0 : decode cX0_firstDarkColumn 0 = .ok (.iconst 0, 1) := by decide +kernel
theorem dX0_firstDarkColumn_1 : decode cX0_firstDarkColumn 1 = .ok (.istore_n 1, 1) := by decide +kernel
theorem dX0_firstDarkColumn_2 : decode cX0_firstDarkColumn 2 = .ok (.iload_n 1, 1) := by decide +kernel
theorem dX0_firstDarkColumn_3 : decode cX0_firstDarkColumn 3 = .ok (.aload_n 0, 1) := by decide +kernel
theorem dX0_firstDarkColumn_4 : decode cX0_firstDarkColumn 4 = .ok (.getfield 18, 3) := by decide +kernel
theorem dX0_firstDarkColumn_7 : decode cX0_firstDarkColumn 7 = .ok (.if_icmp .ge 22, 3) := by decide +kernel
theorem dX0_firstDarkColumn_10 : decode cX0_firstDarkColumn 10 = .ok (.aload_n 0, 1) := by decide +kernel
theorem dX0_firstDarkColumn_11 : decode cX0_firstDarkColumn 11 = .ok (.getfield 25, 3) := by decide +kernel
theorem dX0_firstDarkColumn_14 : decode cX0_firstDarkColumn 14 = .ok (.iload_n 1, 1) := by decide +kernel
theorem dX0_firstDarkColumn_15 : decode cX0_firstDarkColumn 15 = .ok (.laload, 1) := by decide +kernel
theorem dX0_firstDarkColumn_16 : decode cX0_firstDarkColumn 16 = .ok (.lconst 0, 1) := by decide +kernel
theorem dX0_firstDarkColumn_17 : decode cX0_firstDarkColumn 17 = .ok (.lcmp, 1) := by decide +kernel
theorem dX0_firstDarkColumn_18 : decode cX0_firstDarkColumn 18 = .ok (.ifCond .eq 5, 3) := by decide +kernel
theorem dX0_firstDarkColumn_21 : decode cX0_firstDarkColumn 21 = .ok (.iload_n 1, 1) := by decide +kernel
theorem dX0_firstDarkColumn_22 : decode cX0_firstDarkColumn 22 = .ok (.ireturn, 1) := by decide +kernel
theorem dX0_firstDarkColumn_23 : decode cX0_firstDarkColumn 23 = .ok (.iinc 1 1, 3) := by decide +kernel
theorem dX0_firstDarkColumn_26 : decode cX0_firstDarkColumn 26 = .ok (.goto (-24), 3) := by decide +kernel
theorem dX0_firstDarkColumn_29 : decode cX0_firstDarkColumn 29 = .ok (.iconst (-1), 1) := by decide +kernel
theorem dX0_firstDarkColumn_30 : decode cX0_firstDarkColumn 30 = .ok (.ireturn, 1) := by decide +kernel
theorem dX0_lastDarkColumn_0 : decode cX0_lastDarkColumn 0 = .ok (.aload_n 0, 1) := by decide +kernel
theorem dX0_lastDarkColumn_1 : decode cX0_lastDarkColumn 1 = .ok (.getfield 18, 3) := by decide +kernel
theorem dX0_lastDarkColumn_4 : decode cX0_lastDarkColumn 4 = .ok (.iconst 1, 1) := by decide +kernel
theorem dX0_lastDarkColumn_5 : decode cX0_lastDarkColumn 5 = .ok (.isub, 1) := by decide +kernel
theorem dX0_lastDarkColumn_6 : decode cX0_lastDarkColumn 6 = .ok (.istore_n 1, 1) := by decide +kernel
theorem dX0_lastDarkColumn_7 : decode cX0_lastDarkColumn 7 = .ok (.iload_n 1, 1) := by decide +kernel
theorem dX0_lastDarkColumn_8 : decode cX0_lastDarkColumn 8 = .ok (.ifCond .lt 22, 3) := by decide +kernel
theorem dX0_lastDarkColumn_11 : decode cX0_lastDarkColumn 11 = .ok (.aload_n 0, 1) := by decide +kernel
theorem dX0_lastDarkColumn_12 : decode cX0_lastDarkColumn 12 = .ok (.getfield 25, 3) := by decide +kernel
theorem dX0_lastDarkColumn_15 : decode cX0_lastDarkColumn 15 = .ok (.iload_n 1, 1) := by decide +kernel
theorem dX0_lastDarkColumn_16 : decode cX0_lastDarkColumn 16 = .ok (.laload, 1) := by decide +kernel
theorem dX0_lastDarkColumn_17 : decode cX0_lastDarkColumn 17 = .ok (.lconst 0, 1) := by decide +kernel
theorem dX0_lastDarkColumn_18 : decode cX0_lastDarkColumn 18 = .ok (.lcmp, 1) := by decide +kernel
theorem dX0_lastDarkColumn_19 : decode cX0_lastDarkColumn 19 = .ok (.ifCond .eq 5, 3) := by decide +kernel
theorem dX0_lastDarkColumn_22 : decode cX0_lastDarkColumn 22 = .ok (.iload_n 1, 1) := by decide +kernel
theorem dX0_lastDarkColumn_23 : decode cX0_lastDarkColumn 23 = .ok (.ireturn, 1) := by decide +kernel
theorem dX0_lastDarkColumn_24 : decode cX0_lastDarkColumn 24 = .ok (.iinc 1 (-1), 3) := by decide +kernel
theorem dX0_lastDarkColumn_27 : decode cX0_lastDarkColumn 27 = .ok (.goto (-20), 3) := by decide +kernel
theorem dX0_lastDarkColumn_30 : decode cX0_lastDarkColumn 30 = .ok (.iconst (-1), 1) := by decide +kernel
theorem dX0_lastDarkColumn_31 : decode cX0_lastDarkColumn 31 = .ok (.ireturn, 1) := by decide +kernel
set_option maxRecDepth 20000 in
theorem ggX0_darkInRow_J13_bitCount_95d88 : GoodIn wsX0_darkInRow wsJ13_bitCount_95d88 := goodIn_r _ [5, 6, 7, 8] (by decide +kernel) (by decide +kernel)
set_option maxRecDepth 20000 in
theorem gX0_darkInRow_J13_bitCount_95d88 : GoodIn wsX0_darkInRow (va_wsS RX0 90 yJ13_bitCount_95d88 wsJ13_bitCount_95d88) := goodIn_app (goodIn_of _ (by decide +kernel)) ggX0_darkInRow_J13_bitCount_95d88
theorem dX0_darkInRow_0 : decode cX0_darkInRow 0 = .ok (.aload_n 0, 1) := by decide +kernel
theorem dX0_darkInRow_1 : decode cX0_darkInRow 1 = .ok (.getfield 29, 3) := by decide +kernel
theorem dX0_darkInRow_4 : decode cX0_darkInRow 4 = .ok (.iload_n 1, 1) := by decide +kernel
theorem dX0_darkInRow_5 : decode cX0_darkInRow 5 = .ok (.laload, 1) := by decide +kernel
theorem dX0_darkInRow_6 : decode cX0_darkInRow 6 = .ok (.invokestatic 90, 3) := by decide +kernel
theorem dX0_darkInRow_9 : decode cX0_darkInRow 9 = .ok (.ireturn, 1) := by decide +kernel
set_option maxRecDepth 20000 in
theorem ggX0_mostDarkInARow_X0_darkInRow : GoodIn wsX0_mostDarkInARow wsX0_darkInRow := goodIn_r _ [10, 11, 12, 13, 14, 15, 16, 17, 18, 19, 20, 21, 22, 23, 24, 25, 26, 27, 28, 29] (by decide +kernel) (by decide +kernel)
set_option maxRecDepth 20000 in
theorem gX0_mostDarkInARow_X0_darkInRow : GoodIn wsX0_mostDarkInARow (wsV RX0 116 RX0 yX0_darkInRow wsX0_darkInRow) := goodIn_app (goodIn_of _ (by decide +kernel)) ggX0_mostDarkInARow_X0_darkInRow
theorem dX0_mostDarkInARow_0 : decode cX0_mostDarkInARow 0 = .ok (.iconst 0, 1) := by decide +kernel
theorem dX0_mostDarkInARow_1 : decode cX0_mostDarkInARow 1 = .ok (.istore_n 1, 1) := by decide +kernel
theorem dX0_mostDarkInARow_2 : decode cX0_mostDarkInARow 2 = .ok (.iconst 0, 1) := by decide +kernel
theorem dX0_mostDarkInARow_3 : decode cX0_mostDarkInARow 3 = .ok (.istore_n 2, 1) := by decide +kernel
theorem dX0_mostDarkInARow_4 : decode cX0_mostDarkInARow 4 = .ok (.iload_n 2, 1) := by decide +kernel
theorem dX0_mostDarkInARow_5 : decode cX0_mostDarkInARow 5 = .ok (.aload_n 0, 1) := by decide +kernel
theorem dX0_mostDarkInARow_6 : decode cX0_mostDarkInARow 6 = .ok (.getfield 22, 3) := by decide +kernel
theorem dX0_mostDarkInARow_9 : decode cX0_mostDarkInARow 9 = .ok (.if_icmp .ge 19, 3) := by decide +kernel
theorem dX0_mostDarkInARow_12 : decode cX0_mostDarkInARow 12 = .ok (.iload_n 1, 1) := by decide +kernel
theorem dX0_mostDarkInARow_13 : decode cX0_mostDarkInARow 13 = .ok (.aload_n 0, 1) := by decide +kernel
theorem dX0_mostDarkInARow_14 : decode cX0_mostDarkInARow 14 = .ok (.iload_n 2, 1) := by decide +kernel
theorem dX0_mostDarkInARow_15 : decode cX0_mostDarkInARow 15 = .ok (.invokevirtual 116, 3) := by decide +kernel
theorem dX0_mostDarkInARow_18 : decode cX0_mostDarkInARow 18 = .ok (.invokestatic 15, 3) := by decide +kernel
theorem dX0_mostDarkInARow_21 : decode cX0_mostDarkInARow 21 = .ok (.istore_n 1, 1) := by decide +kernel
theorem dX0_mostDarkInARow_22 : decode cX0_mostDarkInARow 22 = .ok (.iinc 2 1, 3) := by decide +kernel
theorem dX0_mostDarkInARow_25 : decode cX0_mostDarkInARow 25 = .ok (.goto (-21), 3) := by decide +kernel
theorem dX0_mostDarkInARow_28 : decode cX0_mostDarkInARow 28 = .ok (.iload_n 1, 1) := by decide +kernel
theorem dX0_mostDarkInARow_29 : decode cX0_mostDarkInARow 29 = .ok (.ireturn, 1) := by decide +kernel
set_option maxRecDepth 20000 in
theorem ggX0_firstStrongRow_X0_mostDarkInARow : GoodIn wsX0_firstStrongRow wsX0_mostDarkInARow := goodIn_r _ [6, 1, 7, 8, 9, 10, 11, 12, 13, 5, 14, 15, 16, 17, 18, 19, 20, 21, 22, 23, 24, 25, 26, 27, 28, 29, 30, 31, 32, 33] (by decide +kernel) (by decide +kernel)
set_option maxRecDepth 20000 in
theorem gX0_firstStrongRow_X0_mostDarkInARow : GoodIn wsX0_firstStrongRow (wsV RX0 119 RX0 yX0_mostDarkInARow wsX0_mostDarkInARow) := goodIn_app (goodIn_of _ (by decide +kernel)) ggX0_firstStrongRow_X0_mostDarkInARow
set_option maxRecDepth 20000 in
theorem ggX0_firstStrongRow_X0_darkInRow : GoodIn wsX0_firstStrongRow wsX0_darkInRow := goodIn_r _ [14, 15, 16, 17, 18, 19, 20, 21, 22, 23, 24, 25, 26, 27, 28, 29, 30, 31, 32, 33] (by decide +kernel) (by decide +kernel)
set_option maxRecDepth 20000 in
theorem gX0_firstStrongRow_X0_darkInRow : GoodIn wsX0_firstStrongRow (wsV RX0 116 RX0 yX0_darkInRow wsX0_darkInRow) := goodIn_app (goodIn_of _ (by decide +kernel)) ggX0_firstStrongRow_X0_darkInRow
theorem dX0_firstStrongRow_0 : decode cX0_firstStrongRow 0 = .ok (.aload_n 0, 1) := by decide +kernel
theorem dX0_firstStrongRow_1 : decode cX0_firstStrongRow 1 = .ok (.invokevirtual 119, 3) := by decide +kernel
theorem dX0_firstStrongRow_4 : decode cX0_firstStrongRow 4 = .ok (.istore_n 1, 1) := by decide +kernel
theorem dX0_firstStrongRow_5 : decode cX0_firstStrongRow 5 = .ok (.iconst 0, 1) := by decide +kernel
theorem dX0_firstStrongRow_6 : decode cX0_firstStrongRow 6 = .ok (.istore_n 2, 1) := by decide +kernel
theorem dX0_firstStrongRow_7 : decode cX0_firstStrongRow 7 = .ok (.iload_n 2, 1) := by decide +kernel
theorem dX0_firstStrongRow_8 : decode cX0_firstStrongRow 8 = .ok (.aload_n 0, 1) := by decide +kernel
theorem dX0_firstStrongRow_9 : decode cX0_firstStrongRow 9 = .ok (.getfield 22, 3) := by decide +kernel
theorem dX0_firstStrongRow_12 : decode cX0_firstStrongRow 12 = .ok (.if_icmp .ge 22, 3) := by decide +kernel
theorem dX0_firstStrongRow_15 : decode cX0_firstStrongRow 15 = .ok (.iconst 2, 1) := by decide +kernel
theorem dX0_firstStrongRow_16 : decode cX0_firstStrongRow 16 = .ok (.aload_n 0, 1) := by decide +kernel
theorem dX0_firstStrongRow_17 : decode cX0_firstStrongRow 17 = .ok (.iload_n 2, 1) := by decide +kernel
theorem dX0_firstStrongRow_18 : decode cX0_firstStrongRow 18 = .ok (.invokevirtual 116, 3) := by decide +kernel
theorem dX0_firstStrongRow_21 : decode cX0_firstStrongRow 21 = .ok (.imul, 1) := by decide +kernel
theorem dX0_firstStrongRow_22 : decode cX0_firstStrongRow 22 = .ok (.iload_n 1, 1) := by decide +kernel
theorem dX0_firstStrongRow_23 : decode cX0_firstStrongRow 23 = .ok (.if_icmp .lt 5, 3) := by decide +kernel
theorem dX0_firstStrongRow_26 : decode cX0_firstStrongRow 26 = .ok (.iload_n 2, 1) := by decide +kernel
theorem dX0_firstStrongRow_27 : decode cX0_firstStrongRow 27 = .ok (.ireturn, 1) := by decide +kernel
theorem dX0_firstStrongRow_28 : decode cX0_firstStrongRow 28 = .ok (.iinc 2 1, 3) := by decide +kernel
theorem dX0_firstStrongRow_31 : decode cX0_firstStrongRow 31 = .ok (.goto (-24), 3) := by decide +kernel
theorem dX0_firstStrongRow_34 : decode cX0_firstStrongRow 34 = .ok (.iconst (-1), 1) := by decide +kernel
theorem dX0_firstStrongRow_35 : decode cX0_firstStrongRow 35 = .ok (.ireturn, 1) := by decide +kernel
set_option maxRecDepth 20000 in
theorem ggX0_lastStrongRow_X0_mostDarkInARow : GoodIn wsX0_lastStrongRow wsX0_mostDarkInARow := goodIn_r _ [6, 1, 7, 8, 9, 10, 11, 12, 13, 5, 14, 15, 16, 17, 18, 19, 20, 21, 22, 23, 24, 25, 26, 27, 28, 29, 30, 31, 32, 33] (by decide +kernel) (by decide +kernel)
set_option maxRecDepth 20000 in
theorem gX0_lastStrongRow_X0_mostDarkInARow : GoodIn wsX0_lastStrongRow (wsV RX0 119 RX0 yX0_mostDarkInARow wsX0_mostDarkInARow) := goodIn_app (goodIn_of _ (by decide +kernel)) ggX0_lastStrongRow_X0_mostDarkInARow
set_option maxRecDepth 20000 in
theorem ggX0_lastStrongRow_X0_darkInRow : GoodIn wsX0_lastStrongRow wsX0_darkInRow := goodIn_r _ [14, 15, 16, 17, 18, 19, 20, 21, 22, 23, 24, 25, 26, 27, 28, 29, 30, 31, 32, 33] (by decide +kernel) (by decide +kernel)
set_option maxRecDepth 20000 in
theorem gX0_lastStrongRow_X0_darkInRow : GoodIn wsX0_lastStrongRow (wsV RX0 116 RX0 yX0_darkInRow wsX0_darkInRow) := goodIn_app (goodIn_of _ (by decide +kernel)) ggX0_lastStrongRow_X0_darkInRow
theorem dX0_lastStrongRow_0 : decode cX0_lastStrongRow 0 = .ok (.aload_n 0, 1) := by decide +kernel
theorem dX0_lastStrongRow_1 : decode cX0_lastStrongRow 1 = .ok (.invokevirtual 119, 3) := by decide +kernel
theorem dX0_lastStrongRow_4 : decode cX0_lastStrongRow 4 = .ok (.istore_n 1, 1) := by decide +kernel
theorem dX0_lastStrongRow_5 : decode cX0_lastStrongRow 5 = .ok (.aload_n 0, 1) := by decide +kernel
theorem dX0_lastStrongRow_6 : decode cX0_lastStrongRow 6 = .ok (.getfield 22, 3) := by decide +kernel
theorem dX0_lastStrongRow_9 : decode cX0_lastStrongRow 9 = .ok (.iconst 1, 1) := by decide +kernel
theorem dX0_lastStrongRow_10 : decode cX0_lastStrongRow 10 = .ok (.isub, 1) := by decide +kernel
theorem dX0_lastStrongRow_11 : decode cX0_lastStrongRow 11 = .ok (.istore_n 2, 1) := by decide +kernel
theorem dX0_lastStrongRow_12 : decode cX0_lastStrongRow 12 = .ok (.iload_n 2, 1) := by decide +kernel
theorem dX0_lastStrongRow_13 : decode cX0_lastStrongRow 13 = .ok (.ifCond .lt 22, 3) := by decide +kernel
theorem dX0_lastStrongRow_16 : decode cX0_lastStrongRow 16 = .ok (.iconst 2, 1) := by decide +kernel
theorem dX0_lastStrongRow_17 : decode cX0_lastStrongRow 17 = .ok (.aload_n 0, 1) := by decide +kernel
theorem dX0_lastStrongRow_18 : decode cX0_lastStrongRow 18 = .ok (.iload_n 2, 1) := by decide +kernel
theorem dX0_lastStrongRow_19 : decode cX0_lastStrongRow 19 = .ok (.invokevirtual 116, 3) := by decide +kernel
theorem dX0_lastStrongRow_22 : decode cX0_lastStrongRow 22 = .ok (.imul, 1) := by decide +kernel
theorem dX0_lastStrongRow_23 : decode cX0_lastStrongRow 23 = .ok (.iload_n 1, 1) := by decide +kernel
theorem dX0_lastStrongRow_24 : decode cX0_lastStrongRow 24 = .ok (.if_icmp .lt 5, 3) := by decide +kernel
theorem dX0_lastStrongRow_27 : decode cX0_lastStrongRow 27 = .ok (.iload_n 2, 1) := by decide +kernel
theorem dX0_lastStrongRow_28 : decode cX0_lastStrongRow 28 = .ok (.ireturn, 1) := by decide +kernel
theorem dX0_lastStrongRow_29 : decode cX0_lastStrongRow 29 = .ok (.iinc 2 (-1), 3) := by decide +kernel
theorem dX0_lastStrongRow_32 : decode cX0_lastStrongRow 32 = .ok (.goto (-20), 3) := by decide +kernel
theorem dX0_lastStrongRow_35 : decode cX0_lastStrongRow 35 = .ok (.iconst (-1), 1) := by decide +kernel
theorem dX0_lastStrongRow_36 : decode cX0_lastStrongRow 36 = .ok (.ireturn, 1) := by decide +kernel
set_option maxRecDepth 20000 in
theorem ggX0_dueWidth_X0_lastStrongRow : GoodIn wsX0_dueWidth wsX0_lastStrongRow := goodIn_r _ [5, 6, 7, 8, 9, 4, 10, 11, 12, 13, 14, 15, 16, 17, 18, 19, 20, 21, 22, 23, 24, 25, 26, 31, 32, 33, 34, 35, 36, 37, 38, 39, 40, 41] (by decide +kernel) (by decide +kernel)
set_option maxRecDepth 20000 in
theorem gX0_dueWidth_X0_lastStrongRow : GoodIn wsX0_dueWidth (wsV RX0 99 RX0 yX0_lastStrongRow wsX0_lastStrongRow) := goodIn_app (goodIn_of _ (by decide +kernel)) ggX0_dueWidth_X0_lastStrongRow
set_option maxRecDepth 20000 in
theorem ggX0_dueWidth_X0_firstStrongRow : GoodIn wsX0_dueWidth wsX0_firstStrongRow := goodIn_r _ [30, 6, 7, 8, 9, 4, 10, 11, 12, 13, 14, 15, 16, 17, 18, 19, 20, 21, 22, 23, 24, 25, 26, 31, 32, 33, 34, 35, 36, 37, 38, 39, 40, 41] (by decide +kernel) (by decide +kernel)
set_option maxRecDepth 20000 in
theorem gX0_dueWidth_X0_firstStrongRow : GoodIn wsX0_dueWidth (wsV RX0 96 RX0 yX0_firstStrongRow wsX0_firstStrongRow) := goodIn_app (goodIn_of _ (by decide +kernel)) ggX0_dueWidth_X0_firstStrongRow
theorem dX0_dueWidth_0 : decode cX0_dueWidth 0 = .ok (.aload_n 0, 1) := by decide +kernel
theorem dX0_dueWidth_1 : decode cX0_dueWidth 1 = .ok (.invokevirtual 99, 3) := by decide +kernel
theorem dX0_dueWidth_4 : decode cX0_dueWidth 4 = .ok (.aload_n 0, 1) := by decide +kernel
theorem dX0_dueWidth_5 : decode cX0_dueWidth 5 = .ok (.invokevirtual 96, 3) := by decide +kernel
theorem dX0_dueWidth_8 : decode cX0_dueWidth 8 = .ok (.isub, 1) := by decide +kernel
theorem dX0_dueWidth_9 : decode cX0_dueWidth 9 = .ok (.iconst 3, 1) := by decide +kernel
theorem dX0_dueWidth_10 : decode cX0_dueWidth 10 = .ok (.imul, 1) := by decide +kernel
theorem dX0_dueWidth_11 : decode cX0_dueWidth 11 = .ok (.iconst 4, 1) := by decide +kernel
theorem dX0_dueWidth_12 : decode cX0_dueWidth 12 = .ok (.idiv, 1) := by decide +kernel
theorem dX0_dueWidth_13 : decode cX0_dueWidth 13 = .ok (.iconst 2, 1) := by decide +kernel
theorem dX0_dueWidth_14 : decode cX0_dueWidth 14 = .ok (.iadd, 1) := by decide +kernel
theorem dX0_dueWidth_15 : decode cX0_dueWidth 15 = .ok (.ireturn, 1) := by decide +kernel
set_option maxRecDepth 20000 in
theorem ggX0_shearedColumns_J9_floorDiv_7cf53 : GoodIn wsX0_shearedColumns wsJ9_floorDiv_7cf53 := goodIn_r _ [6] (by decide +kernel) (by decide +kernel)
set_option maxRecDepth 20000 in
theorem gX0_shearedColumns_J9_floorDiv_7cf53 : GoodIn wsX0_shearedColumns (va_wsS RX0 122 yJ9_floorDiv_7cf53 wsJ9_floorDiv_7cf53) := goodIn_app (goodIn_of _ (by decide +kernel)) ggX0_shearedColumns_J9_floorDiv_7cf53
set_option maxRecDepth 20000 in
theorem ggX0_shearedColumns_J13_bitCount_95d88 : GoodIn wsX0_shearedColumns wsJ13_bitCount_95d88 := goodIn_r _ [10, 11, 12, 13] (by decide +kernel) (by decide +kernel)
set_option maxRecDepth 20000 in
theorem gX0_shearedColumns_J13_bitCount_95d88 : GoodIn wsX0_shearedColumns (va_wsS RX0 90 yJ13_bitCount_95d88 wsJ13_bitCount_95d88) := goodIn_app (goodIn_of _ (by decide +kernel)) ggX0_shearedColumns_J13_bitCount_95d88
theorem dX0_shearedColumns_0 : decode cX0_shearedColumns 0 = .ok (.lconst 0, 1) := by decide +kernel
theorem dX0_shearedColumns_1 : decode cX0_shearedColumns 1 = .ok (.lstore_n 2, 1) := by decide +kernel
theorem dX0_shearedColumns_2 : decode cX0_shearedColumns 2 = .ok (.lconst 0, 1) := by decide +kernel
theorem dX0_shearedColumns_3 : decode cX0_shearedColumns 3 = .ok (.lstore 4, 2) := by decide +kernel
theorem dX0_shearedColumns_5 : decode cX0_shearedColumns 5 = .ok (.iconst 0, 1) := by decide +kernel
theorem dX0_shearedColumns_6 : decode cX0_shearedColumns 6 = .ok (.istore 6, 2) := by decide +kernel
theorem dX0_shearedColumns_8 : decode cX0_shearedColumns 8 = .ok (.iload 6, 2) := by decide +kernel
theorem dX0_shearedColumns_10 : decode cX0_shearedColumns 10 = .ok (.aload_n 0, 1) := by decide +kernel
theorem dX0_shearedColumns_11 : decode cX0_shearedColumns 11 = .ok (.getfield 22, 3) := by decide +kernel
theorem dX0_shearedColumns_14 : decode cX0_shearedColumns 14 = .ok (.if_icmp .ge 63, 3) := by decide +kernel
theorem dX0_shearedColumns_17 : decode cX0_shearedColumns 17 = .ok (.bipush 30, 2) := by decide +kernel
theorem dX0_shearedColumns_19 : decode cX0_shearedColumns 19 = .ok (.iload_n 1, 1) := by decide +kernel
theorem dX0_shearedColumns_20 : decode cX0_shearedColumns 20 = .ok (.aload_n 0, 1) := by decide +kernel
theorem dX0_shearedColumns_21 : decode cX0_shearedColumns 21 = .ok (.getfield 22, 3) := by decide +kernel
theorem dX0_shearedColumns_24 : decode cX0_shearedColumns 24 = .ok (.iconst 1, 1) := by decide +kernel
theorem dX0_shearedColumns_25 : decode cX0_shearedColumns 25 = .ok (.isub, 1) := by decide +kernel
theorem dX0_shearedColumns_26 : decode cX0_shearedColumns 26 = .ok (.iload 6, 2) := by decide +kernel
theorem dX0_shearedColumns_28 : decode cX0_shearedColumns 28 = .ok (.isub, 1) := by decide +kernel
theorem dX0_shearedColumns_29 : decode cX0_shearedColumns 29 = .ok (.imul, 1) := by decide +kernel
theorem dX0_shearedColumns_30 : decode cX0_shearedColumns 30 = .ok (.bipush 8, 2) := by decide +kernel
theorem dX0_shearedColumns_32 : decode cX0_shearedColumns 32 = .ok (.invokestatic 122, 3) := by decide +kernel
theorem dX0_shearedColumns_35 : decode cX0_shearedColumns 35 = .ok (.iadd, 1) := by decide +kernel
theorem dX0_shearedColumns_36 : decode cX0_shearedColumns 36 = .ok (.istore 7, 2) := by decide +kernel
theorem dX0_shearedColumns_38 : decode cX0_shearedColumns 38 = .ok (.lload_n 2, 1) := by decide +kernel
theorem dX0_shearedColumns_39 : decode cX0_shearedColumns 39 = .ok (.aload_n 0, 1) := by decide +kernel
theorem dX0_shearedColumns_40 : decode cX0_shearedColumns 40 = .ok (.getfield 29, 3) := by decide +kernel
theorem dX0_shearedColumns_43 : decode cX0_shearedColumns 43 = .ok (.iload 6, 2) := by decide +kernel
theorem dX0_shearedColumns_45 : decode cX0_shearedColumns 45 = .ok (.laload, 1) := by decide +kernel
theorem dX0_shearedColumns_46 : decode cX0_shearedColumns 46 = .ok (.iload 7, 2) := by decide +kernel
theorem dX0_shearedColumns_48 : decode cX0_shearedColumns 48 = .ok (.lshl, 1) := by decide +kernel
theorem dX0_shearedColumns_49 : decode cX0_shearedColumns 49 = .ok (.lor, 1) := by decide +kernel
theorem dX0_shearedColumns_50 : decode cX0_shearedColumns 50 = .ok (.lstore_n 2, 1) := by decide +kernel
theorem dX0_shearedColumns_51 : decode cX0_shearedColumns 51 = .ok (.lload 4, 2) := by decide +kernel
theorem dX0_shearedColumns_53 : decode cX0_shearedColumns 53 = .ok (.aload_n 0, 1) := by decide +kernel
theorem dX0_shearedColumns_54 : decode cX0_shearedColumns 54 = .ok (.getfield 29, 3) := by decide +kernel
theorem dX0_shearedColumns_57 : decode cX0_shearedColumns 57 = .ok (.iload 6, 2) := by decide +kernel
theorem dX0_shearedColumns_59 : decode cX0_shearedColumns 59 = .ok (.laload, 1) := by decide +kernel
theorem dX0_shearedColumns_60 : decode cX0_shearedColumns 60 = .ok (.iconst 1, 1) := by decide +kernel
theorem dX0_shearedColumns_61 : decode cX0_shearedColumns 61 = .ok (.lushr, 1) := by decide +kernel
theorem dX0_shearedColumns_62 : decode cX0_shearedColumns 62 = .ok (.bipush 63, 2) := by decide +kernel
theorem dX0_shearedColumns_64 : decode cX0_shearedColumns 64 = .ok (.iload 7, 2) := by decide +kernel
theorem dX0_shearedColumns_66 : decode cX0_shearedColumns 66 = .ok (.isub, 1) := by decide +kernel
theorem dX0_shearedColumns_67 : decode cX0_shearedColumns 67 = .ok (.lushr, 1) := by decide +kernel
theorem dX0_shearedColumns_68 : decode cX0_shearedColumns 68 = .ok (.lor, 1) := by decide +kernel
theorem dX0_shearedColumns_69 : decode cX0_shearedColumns 69 = .ok (.lstore 4, 2) := by decide +kernel
theorem dX0_shearedColumns_71 : decode cX0_shearedColumns 71 = .ok (.iinc 6 1, 3) := by decide +kernel
theorem dX0_shearedColumns_74 : decode cX0_shearedColumns 74 = .ok (.goto (-66), 3) := by decide +kernel
theorem dX0_shearedColumns_77 : decode cX0_shearedColumns 77 = .ok (.lload_n 2, 1) := by decide +kernel
theorem dX0_shearedColumns_78 : decode cX0_shearedColumns 78 = .ok (.invokestatic 90, 3) := by decide +kernel
theorem dX0_shearedColumns_81 : decode cX0_shearedColumns 81 = .ok (.lload 4, 2) := by decide +kernel
theorem dX0_shearedColumns_83 : decode cX0_shearedColumns 83 = .ok (.invokestatic 90, 3) := by decide +kernel
theorem dX0_shearedColumns_86 : decode cX0_shearedColumns 86 = .ok (.iadd, 1) := by decide +kernel
theorem dX0_shearedColumns_87 : decode cX0_shearedColumns 87 = .ok (.ireturn, 1) := by decide +kernel
set_option maxRecDepth 20000 in
theorem ggX0_touch_J13_bitCount_95d88 : GoodIn wsX0_touch wsJ13_bitCount_95d88 := goodIn_r _ [5, 6, 7, 8] (by decide +kernel) (by decide +kernel)
set_option maxRecDepth 20000 in
theorem gX0_touch_J13_bitCount_95d88 : GoodIn wsX0_touch (va_wsS RX0 90 yJ13_bitCount_95d88 wsJ13_bitCount_95d88) := goodIn_app (goodIn_of _ (by decide +kernel)) ggX0_touch_J13_bitCount_95d88
theorem dX0_touch_0 : decode cX0_touch 0 = .ok (.aload_n 0, 1) := by decide +kernel
theorem dX0_touch_1 : decode cX0_touch 1 = .ok (.getfield 25, 3) := by decide +kernel
theorem dX0_touch_4 : decode cX0_touch 4 = .ok (.iload_n 1, 1) := by decide +kernel
theorem dX0_touch_5 : decode cX0_touch 5 = .ok (.iconst 1, 1) := by decide +kernel
theorem dX0_touch_6 : decode cX0_touch 6 = .ok (.isub, 1) := by decide +kernel
theorem dX0_touch_7 : decode cX0_touch 7 = .ok (.laload, 1) := by decide +kernel
theorem dX0_touch_8 : decode cX0_touch 8 = .ok (.aload_n 0, 1) := by decide +kernel
theorem dX0_touch_9 : decode cX0_touch 9 = .ok (.getfield 25, 3) := by decide +kernel
theorem dX0_touch_12 : decode cX0_touch 12 = .ok (.iload_n 1, 1) := by decide +kernel
theorem dX0_touch_13 : decode cX0_touch 13 = .ok (.laload, 1) := by decide +kernel
theorem dX0_touch_14 : decode cX0_touch 14 = .ok (.land, 1) := by decide +kernel
theorem dX0_touch_15 : decode cX0_touch 15 = .ok (.invokestatic 90, 3) := by decide +kernel
theorem dX0_touch_18 : decode cX0_touch 18 = .ok (.ireturn, 1) := by decide +kernel
set_option maxRecDepth 20000 in
theorem ggX0_placesToCut_X0_touch : GoodIn wsX0_placesToCut wsX0_touch := goodIn_r _ [6, 1, 7, 8, 9, 10, 11, 12, 13, 14, 15, 16, 17, 18, 19, 20, 21, 22, 23, 24] (by decide +kernel) (by decide +kernel)
set_option maxRecDepth 20000 in
theorem gX0_placesToCut_X0_touch : GoodIn wsX0_placesToCut (wsV RX0 125 RX0 yX0_touch wsX0_touch) := goodIn_app (goodIn_of _ (by decide +kernel)) ggX0_placesToCut_X0_touch
theorem dX0_placesToCut_0 : decode cX0_placesToCut 0 = .ok (.lconst 0, 1) := by decide +kernel
theorem dX0_placesToCut_1 : decode cX0_placesToCut 1 = .ok (.lstore_n 3, 1) := by decide +kernel
theorem dX0_placesToCut_2 : decode cX0_placesToCut 2 = .ok (.iload_n 1, 1) := by decide +kernel
theorem dX0_placesToCut_3 : decode cX0_placesToCut 3 = .ok (.iconst 1, 1) := by decide +kernel
theorem dX0_placesToCut_4 : decode cX0_placesToCut 4 = .ok (.iadd, 1) := by decide +kernel
theorem dX0_placesToCut_5 : decode cX0_placesToCut 5 = .ok (.istore 5, 2) := by decide +kernel
theorem dX0_placesToCut_7 : decode cX0_placesToCut 7 = .ok (.iload 5, 2) := by decide +kernel
theorem dX0_placesToCut_9 : decode cX0_placesToCut 9 = .ok (.iload_n 2, 1) := by decide +kernel
theorem dX0_placesToCut_10 : decode cX0_placesToCut 10 = .ok (.if_icmp .ge 60, 3) := by decide +kernel
theorem dX0_placesToCut_13 : decode cX0_placesToCut 13 = .ok (.aload_n 0, 1) := by decide +kernel
theorem dX0_placesToCut_14 : decode cX0_placesToCut 14 = .ok (.getfield 25, 3) := by decide +kernel
theorem dX0_placesToCut_17 : decode cX0_placesToCut 17 = .ok (.iload 5, 2) := by decide +kernel
theorem dX0_placesToCut_19 : decode cX0_placesToCut 19 = .ok (.iconst 1, 1) := by decide +kernel
theorem dX0_placesToCut_20 : decode cX0_placesToCut 20 = .ok (.isub, 1) := by decide +kernel
theorem dX0_placesToCut_21 : decode cX0_placesToCut 21 = .ok (.laload, 1) := by decide +kernel
theorem dX0_placesToCut_22 : decode cX0_placesToCut 22 = .ok (.aload_n 0, 1) := by decide +kernel
theorem dX0_placesToCut_23 : decode cX0_placesToCut 23 = .ok (.getfield 25, 3) := by decide +kernel
theorem dX0_placesToCut_26 : decode cX0_placesToCut 26 = .ok (.iload 5, 2) := by decide +kernel
theorem dX0_placesToCut_28 : decode cX0_placesToCut 28 = .ok (.laload, 1) := by decide +kernel
theorem dX0_placesToCut_29 : decode cX0_placesToCut 29 = .ok (.lor, 1) := by decide +kernel
theorem dX0_placesToCut_30 : decode cX0_placesToCut 30 = .ok (.lconst 0, 1) := by decide +kernel
theorem dX0_placesToCut_31 : decode cX0_placesToCut 31 = .ok (.lcmp, 1) := by decide +kernel
theorem dX0_placesToCut_32 : decode cX0_placesToCut 32 = .ok (.ifCond .eq 7, 3) := by decide +kernel
theorem dX0_placesToCut_35 : decode cX0_placesToCut 35 = .ok (.iconst 1, 1) := by decide +kernel
theorem dX0_placesToCut_36 : decode cX0_placesToCut 36 = .ok (.goto 4, 3) := by decide +kernel
theorem dX0_placesToCut_39 : decode cX0_placesToCut 39 = .ok (.iconst 0, 1) := by decide +kernel
theorem dX0_placesToCut_40 : decode cX0_placesToCut 40 = .ok (.istore 6, 2) := by decide +kernel
theorem dX0_placesToCut_42 : decode cX0_placesToCut 42 = .ok (.iload 6, 2) := by decide +kernel
theorem dX0_placesToCut_44 : decode cX0_placesToCut 44 = .ok (.ifCond .eq 20, 3) := by decide +kernel
theorem dX0_placesToCut_47 : decode cX0_placesToCut 47 = .ok (.aload_n 0, 1) := by decide +kernel
theorem dX0_placesToCut_48 : decode cX0_placesToCut 48 = .ok (.iload 5, 2) := by decide +kernel
theorem dX0_placesToCut_50 : decode cX0_placesToCut 50 = .ok (.invokevirtual 125, 3) := by decide +kernel
theorem dX0_placesToCut_53 : decode cX0_placesToCut 53 = .ok (.iconst 2, 1) := by decide +kernel
theorem dX0_placesToCut_54 : decode cX0_placesToCut 54 = .ok (.if_icmp .gt 10, 3) := by decide +kernel
theorem dX0_placesToCut_57 : decode cX0_placesToCut 57 = .ok (.lload_n 3, 1) := by decide +kernel
theorem dX0_placesToCut_58 : decode cX0_placesToCut 58 = .ok (.lconst 1, 1) := by decide +kernel
theorem dX0_placesToCut_59 : decode cX0_placesToCut 59 = .ok (.iload 5, 2) := by decide +kernel
theorem dX0_placesToCut_61 : decode cX0_placesToCut 61 = .ok (.lshl, 1) := by decide +kernel
theorem dX0_placesToCut_62 : decode cX0_placesToCut 62 = .ok (.lor, 1) := by decide +kernel
theorem dX0_placesToCut_63 : decode cX0_placesToCut 63 = .ok (.lstore_n 3, 1) := by decide +kernel
theorem dX0_placesToCut_64 : decode cX0_placesToCut 64 = .ok (.iinc 5 1, 3) := by decide +kernel
theorem dX0_placesToCut_67 : decode cX0_placesToCut 67 = .ok (.goto (-60), 3) := by decide +kernel
theorem dX0_placesToCut_70 : decode cX0_placesToCut 70 = .ok (.lload_n 3, 1) := by decide +kernel
theorem dX0_placesToCut_71 : decode cX0_placesToCut 71 = .ok (.lreturn, 1) := by decide +kernel
set_option maxRecDepth 20000 in
theorem ggX0_lengthenTails_X0_has : GoodIn wsX0_lengthenTails wsX0_has := goodIn_r _ [16] (by decide +kernel) (by decide +kernel)
set_option maxRecDepth 20000 in
theorem gX0_lengthenTails_X0_has : GoodIn wsX0_lengthenTails (va_wsS RX0 86 yX0_has wsX0_has) := goodIn_app (goodIn_of _ (by decide +kernel)) ggX0_lengthenTails_X0_has
theorem dX0_lengthenTails_0 : decode cX0_lengthenTails 0 = .ok (.iload_n 2, 1) := by decide +kernel
theorem dX0_lengthenTails_1 : decode cX0_lengthenTails 1 = .ok (.iconst 1, 1) := by decide +kernel
theorem dX0_lengthenTails_2 : decode cX0_lengthenTails 2 = .ok (.isub, 1) := by decide +kernel
theorem dX0_lengthenTails_3 : decode cX0_lengthenTails 3 = .ok (.istore 5, 2) := by decide +kernel
theorem dX0_lengthenTails_5 : decode cX0_lengthenTails 5 = .ok (.aload_n 0, 1) := by decide +kernel
theorem dX0_lengthenTails_6 : decode cX0_lengthenTails 6 = .ok (.getfield 45, 3) := by decide +kernel
theorem dX0_lengthenTails_9 : decode cX0_lengthenTails 9 = .ok (.iload_n 2, 1) := by decide +kernel
theorem dX0_lengthenTails_10 : decode cX0_lengthenTails 10 = .ok (.iconst 0, 1) := by decide +kernel
theorem dX0_lengthenTails_11 : decode cX0_lengthenTails 11 = .ok (.iastore, 1) := by decide +kernel
theorem dX0_lengthenTails_12 : decode cX0_lengthenTails 12 = .ok (.iload_n 2, 1) := by decide +kernel
theorem dX0_lengthenTails_13 : decode cX0_lengthenTails 13 = .ok (.iconst 1, 1) := by decide +kernel
theorem dX0_lengthenTails_14 : decode cX0_lengthenTails 14 = .ok (.isub, 1) := by decide +kernel
theorem dX0_lengthenTails_15 : decode cX0_lengthenTails 15 = .ok (.istore 6, 2) := by decide +kernel
theorem dX0_lengthenTails_17 : decode cX0_lengthenTails 17 = .ok (.iload 6, 2) := by decide +kernel
theorem dX0_lengthenTails_19 : decode cX0_lengthenTails 19 = .ok (.iload_n 1, 1) := by decide +kernel
theorem dX0_lengthenTails_20 : decode cX0_lengthenTails 20 = .ok (.if_icmp .le 73, 3) := by decide +kernel
theorem dX0_lengthenTails_23 : decode cX0_lengthenTails 23 = .ok (.aload_n 0, 1) := by decide +kernel
theorem dX0_lengthenTails_24 : decode cX0_lengthenTails 24 = .ok (.getfield 25, 3) := by decide +kernel
theorem dX0_lengthenTails_27 : decode cX0_lengthenTails 27 = .ok (.iload 6, 2) := by decide +kernel
theorem dX0_lengthenTails_29 : decode cX0_lengthenTails 29 = .ok (.laload, 1) := by decide +kernel
theorem dX0_lengthenTails_30 : decode cX0_lengthenTails 30 = .ok (.lconst 0, 1) := by decide +kernel
theorem dX0_lengthenTails_31 : decode cX0_lengthenTails 31 = .ok (.lcmp, 1) := by decide +kernel
theorem dX0_lengthenTails_32 : decode cX0_lengthenTails 32 = .ok (.ifCond .eq 7, 3) := by decide +kernel
theorem dX0_lengthenTails_35 : decode cX0_lengthenTails 35 = .ok (.iload 6, 2) := by decide +kernel
theorem dX0_lengthenTails_37 : decode cX0_lengthenTails 37 = .ok (.istore 5, 2) := by decide +kernel
theorem dX0_lengthenTails_39 : decode cX0_lengthenTails 39 = .ok (.lload_n 3, 1) := by decide +kernel
theorem dX0_lengthenTails_40 : decode cX0_lengthenTails 40 = .ok (.iload 6, 2) := by decide +kernel
theorem dX0_lengthenTails_42 : decode cX0_lengthenTails 42 = .ok (.invokestatic 86, 3) := by decide +kernel
theorem dX0_lengthenTails_45 : decode cX0_lengthenTails 45 = .ok (.ifCond .eq 15, 3) := by decide +kernel
theorem dX0_lengthenTails_48 : decode cX0_lengthenTails 48 = .ok (.aload_n 0, 1) := by decide +kernel
theorem dX0_lengthenTails_49 : decode cX0_lengthenTails 49 = .ok (.getfield 42, 3) := by decide +kernel
theorem dX0_lengthenTails_52 : decode cX0_lengthenTails 52 = .ok (.iload 5, 2) := by decide +kernel
theorem dX0_lengthenTails_54 : decode cX0_lengthenTails 54 = .ok (.iconst 1, 1) := by decide +kernel
theorem dX0_lengthenTails_55 : decode cX0_lengthenTails 55 = .ok (.iadd, 1) := by decide +kernel
theorem dX0_lengthenTails_56 : decode cX0_lengthenTails 56 = .ok (.iaload, 1) := by decide +kernel
theorem dX0_lengthenTails_57 : decode cX0_lengthenTails 57 = .ok (.goto 4, 3) := by decide +kernel
theorem dX0_lengthenTails_60 : decode cX0_lengthenTails 60 = .ok (.iconst 0, 1) := by decide +kernel
theorem dX0_lengthenTails_61 : decode cX0_lengthenTails 61 = .ok (.istore 7, 2) := by decide +kernel
theorem dX0_lengthenTails_63 : decode cX0_lengthenTails 63 = .ok (.aload_n 0, 1) := by decide +kernel
theorem dX0_lengthenTails_64 : decode cX0_lengthenTails 64 = .ok (.getfield 45, 3) := by decide +kernel
theorem dX0_lengthenTails_67 : decode cX0_lengthenTails 67 = .ok (.iload 6, 2) := by decide +kernel
theorem dX0_lengthenTails_69 : decode cX0_lengthenTails 69 = .ok (.ldc 128, 2) := by decide +kernel
theorem dX0_lengthenTails_71 : decode cX0_lengthenTails 71 = .ok (.aload_n 0, 1) := by decide +kernel
theorem dX0_lengthenTails_72 : decode cX0_lengthenTails 72 = .ok (.getfield 45, 3) := by decide +kernel
theorem dX0_lengthenTails_75 : decode cX0_lengthenTails 75 = .ok (.iload 6, 2) := by decide +kernel
theorem dX0_lengthenTails_77 : decode cX0_lengthenTails 77 = .ok (.iconst 1, 1) := by decide +kernel
theorem dX0_lengthenTails_78 : decode cX0_lengthenTails 78 = .ok (.iadd, 1) := by decide +kernel
theorem dX0_lengthenTails_79 : decode cX0_lengthenTails 79 = .ok (.iaload, 1) := by decide +kernel
theorem dX0_lengthenTails_80 : decode cX0_lengthenTails 80 = .ok (.iload 7, 2) := by decide +kernel
theorem dX0_lengthenTails_82 : decode cX0_lengthenTails 82 = .ok (.iadd, 1) := by decide +kernel
theorem dX0_lengthenTails_83 : decode cX0_lengthenTails 83 = .ok (.invokestatic 9, 3) := by decide +kernel
theorem dX0_lengthenTails_86 : decode cX0_lengthenTails 86 = .ok (.iastore, 1) := by decide +kernel
theorem dX0_lengthenTails_87 : decode cX0_lengthenTails 87 = .ok (.iinc 6 (-1), 3) := by decide +kernel
theorem dX0_lengthenTails_90 : decode cX0_lengthenTails 90 = .ok (.goto (-73), 3) := by decide +kernel
theorem dX0_lengthenTails_93 : decode cX0_lengthenTails 93 = .ok (.aload_n 0, 1) := by decide +kernel
theorem dX0_lengthenTails_94 : decode cX0_lengthenTails 94 = .ok (.getfield 45, 3) := by decide +kernel
theorem dX0_lengthenTails_97 : decode cX0_lengthenTails 97 = .ok (.iload_n 1, 1) := by decide +kernel
theorem dX0_lengthenTails_98 : decode cX0_lengthenTails 98 = .ok (.iconst 1, 1) := by decide +kernel
theorem dX0_lengthenTails_99 : decode cX0_lengthenTails 99 = .ok (.iadd, 1) := by decide +kernel
theorem dX0_lengthenTails_100 : decode cX0_lengthenTails 100 = .ok (.aload_n 0, 1) := by decide +kernel
theorem dX0_lengthenTails_101 : decode cX0_lengthenTails 101 = .ok (.getfield 42, 3) := by decide +kernel
theorem dX0_lengthenTails_104 : decode cX0_lengthenTails 104 = .ok (.iload_n 1, 1) := by decide +kernel
theorem dX0_lengthenTails_105 : decode cX0_lengthenTails 105 = .ok (.iconst 1, 1) := by decide +kernel
theorem dX0_lengthenTails_106 : decode cX0_lengthenTails 106 = .ok (.iadd, 1) := by decide +kernel
theorem dX0_lengthenTails_107 : decode cX0_lengthenTails 107 = .ok (.iload_n 2, 1) := by decide +kernel
theorem dX0_lengthenTails_108 : decode cX0_lengthenTails 108 = .ok (.iload_n 1, 1) := by decide +kernel
theorem dX0_lengthenTails_109 : decode cX0_lengthenTails 109 = .ok (.isub, 1) := by decide +kernel
theorem dX0_lengthenTails_110 : decode cX0_lengthenTails 110 = .ok (.invokestatic 129, 3) := by decide +kernel
theorem dX0_lengthenTails_113 : decode cX0_lengthenTails 113 = .ok (.return_, 1) := by decide +kernel
theorem dX0_isFound_0 : decode cX0_isFound 0 = .ok (.iload_n 1, 1) := by decide +kernel
theorem dX0_isFound_1 : decode cX0_isFound 1 = .ok (.ifCond .lt 15, 3) := by decide +kernel
theorem dX0_isFound_4 : decode cX0_isFound 4 = .ok (.iload_n 1, 1) := by decide +kernel
theorem dX0_isFound_5 : decode cX0_isFound 5 = .ok (.aload_n 0, 1) := by decide +kernel
theorem dX0_isFound_6 : decode cX0_isFound 6 = .ok (.getfield 61, 3) := by decide +kernel
theorem dX0_isFound_9 : decode cX0_isFound 9 = .ok (.if_icmp .ge 7, 3) := by decide +kernel
theorem dX0_isFound_12 : decode cX0_isFound 12 = .ok (.iconst 1, 1) := by decide +kernel
theorem dX0_isFound_13 : decode cX0_isFound 13 = .ok (.goto 4, 3) := by decide +kernel
theorem dX0_isFound_16 : decode cX0_isFound 16 = .ok (.iconst 0, 1) := by decide +kernel
theorem dX0_isFound_17 : decode cX0_isFound 17 = .ok (.ireturn, 1) := by decide +kernel
theorem dX0_shelf_0 : decode cX0_shelf 0 = .ok (.iload_n 0, 1) := by decide +kernel
theorem dX0_shelf_1 : decode cX0_shelf 1 = .ok (.bipush 40, 2) := by decide +kernel
theorem dX0_shelf_3 : decode cX0_shelf 3 = .ok (.imul, 1) := by decide +kernel
theorem dX0_shelf_4 : decode cX0_shelf 4 = .ok (.ireturn, 1) := by decide +kernel
set_option maxRecDepth 20000 in
theorem ggX0_shelveUntil_X0_shelf : GoodIn wsX0_shelveUntil wsX0_shelf := goodIn_r _ [7] (by decide +kernel) (by decide +kernel)
set_option maxRecDepth 20000 in
theorem gX0_shelveUntil_X0_shelf : GoodIn wsX0_shelveUntil (va_wsS RX0 82 yX0_shelf wsX0_shelf) := goodIn_app (goodIn_of _ (by decide +kernel)) ggX0_shelveUntil_X0_shelf
theorem dX0_shelveUntil_0 : decode cX0_shelveUntil 0 = .ok (.aload_n 0, 1) := by decide +kernel
theorem dX0_shelveUntil_1 : decode cX0_shelveUntil 1 = .ok (.getfield 32, 3) := by decide +kernel
theorem dX0_shelveUntil_4 : decode cX0_shelveUntil 4 = .ok (.iload_n 1, 1) := by decide +kernel
theorem dX0_shelveUntil_5 : decode cX0_shelveUntil 5 = .ok (.invokestatic 82, 3) := by decide +kernel
theorem dX0_shelveUntil_8 : decode cX0_shelveUntil 8 = .ok (.lconst 1, 1) := by decide +kernel
theorem dX0_shelveUntil_9 : decode cX0_shelveUntil 9 = .ok (.iload_n 1, 1) := by decide +kernel
theorem dX0_shelveUntil_10 : decode cX0_shelveUntil 10 = .ok (.lshl, 1) := by decide +kernel
theorem dX0_shelveUntil_11 : decode cX0_shelveUntil 11 = .ok (.lastore, 1) := by decide +kernel
theorem dX0_shelveUntil_12 : decode cX0_shelveUntil 12 = .ok (.aload_n 0, 1) := by decide +kernel
theorem dX0_shelveUntil_13 : decode cX0_shelveUntil 13 = .ok (.getfield 35, 3) := by decide +kernel
theorem dX0_shelveUntil_16 : decode cX0_shelveUntil 16 = .ok (.iload_n 1, 1) := by decide +kernel
theorem dX0_shelveUntil_17 : decode cX0_shelveUntil 17 = .ok (.invokestatic 82, 3) := by decide +kernel
theorem dX0_shelveUntil_20 : decode cX0_shelveUntil 20 = .ok (.iconst 0, 1) := by decide +kernel
theorem dX0_shelveUntil_21 : decode cX0_shelveUntil 21 = .ok (.iastore, 1) := by decide +kernel
theorem dX0_shelveUntil_22 : decode cX0_shelveUntil 22 = .ok (.aload_n 0, 1) := by decide +kernel
theorem dX0_shelveUntil_23 : decode cX0_shelveUntil 23 = .ok (.getfield 39, 3) := by decide +kernel
theorem dX0_shelveUntil_26 : decode cX0_shelveUntil 26 = .ok (.iload_n 1, 1) := by decide +kernel
theorem dX0_shelveUntil_27 : decode cX0_shelveUntil 27 = .ok (.iconst 1, 1) := by decide +kernel
theorem dX0_shelveUntil_28 : decode cX0_shelveUntil 28 = .ok (.iastore, 1) := by decide +kernel
theorem dX0_shelveUntil_29 : decode cX0_shelveUntil 29 = .ok (.return_, 1) := by decide +kernel
set_option maxRecDepth 20000 in
theorem ggX0_shelveEnds_X0_dueWidth : GoodIn wsX0_shelveEnds wsX0_dueWidth := goodIn_r _ [5, 6, 7, 8, 4, 9, 10, 11, 12, 13, 14, 15, 16, 17, 18, 19, 20, 21, 22, 23, 24, 25, 26, 27, 28, 29, 30, 31, 32, 33, 34, 72, 73, 74, 75, 76, 77, 78, 79, 80, 81, 82] (by decide +kernel) (by decide +kernel)
set_option maxRecDepth 20000 in
theorem gX0_shelveEnds_X0_dueWidth : GoodIn wsX0_shelveEnds (wsV RX0 102 RX0 yX0_dueWidth wsX0_dueWidth) := goodIn_app (goodIn_of _ (by decide +kernel)) ggX0_shelveEnds_X0_dueWidth
set_option maxRecDepth 20000 in
theorem ggX0_shelveEnds_X0_placesToCut : GoodIn wsX0_shelveEnds wsX0_placesToCut := goodIn_r _ [38, 39, 40, 41, 42, 4, 43, 24, 25, 26, 27, 28, 29, 30, 72, 73, 74, 75, 76, 77, 78, 79, 80, 81, 82] (by decide +kernel) (by decide +kernel)
set_option maxRecDepth 20000 in
theorem gX0_shelveEnds_X0_placesToCut : GoodIn wsX0_shelveEnds (wsV RX0 105 RX0 yX0_placesToCut wsX0_placesToCut) := goodIn_app (goodIn_of _ (by decide +kernel)) ggX0_shelveEnds_X0_placesToCut
set_option maxRecDepth 20000 in
theorem ggX0_shelveEnds_X0_has : GoodIn wsX0_shelveEnds wsX0_has := goodIn_r _ [46] (by decide +kernel) (by decide +kernel)
set_option maxRecDepth 20000 in
theorem gX0_shelveEnds_X0_has : GoodIn wsX0_shelveEnds (va_wsS RX0 86 yX0_has wsX0_has) := goodIn_app (goodIn_of _ (by decide +kernel)) ggX0_shelveEnds_X0_has
set_option maxRecDepth 20000 in
theorem ggX0_shelveEnds_X0_shelveEndsAt : GoodIn wsX0_shelveEnds wsX0_shelveEndsAt := goodIn_r _ [50, 51, 39, 52, 44, 45, 4, 46, 24, 25, 26, 27, 28, 29, 30, 53, 54, 55, 40, 41, 42, 43, 56, 57, 58, 59, 60, 61, 62, 63, 64, 65, 66, 67, 68, 69, 70, 17, 71, 72, 73, 74, 75, 76, 77, 78, 79, 80, 81, 82] (by decide +kernel) (by decide +kernel)
set_option maxRecDepth 20000 in
theorem gX0_shelveEnds_X0_shelveEndsAt : GoodIn wsX0_shelveEnds (wsV RX0 135 RX0 yX0_shelveEndsAt wsX0_shelveEndsAt) := goodIn_app (goodIn_of _ (by decide +kernel)) ggX0_shelveEnds_X0_shelveEndsAt
theorem dX0_shelveEnds_0 : decode cX0_shelveEnds 0 = .ok (.aload_n 0, 1) := by decide +kernel
theorem dX0_shelveEnds_1 : decode cX0_shelveEnds 1 = .ok (.invokevirtual 102, 3) := by decide +kernel
theorem dX0_shelveEnds_4 : decode cX0_shelveEnds 4 = .ok (.istore 4, 2) := by decide +kernel
theorem dX0_shelveEnds_6 : decode cX0_shelveEnds 6 = .ok (.aload_n 0, 1) := by decide +kernel
theorem dX0_shelveEnds_7 : decode cX0_shelveEnds 7 = .ok (.iload_n 1, 1) := by decide +kernel
theorem dX0_shelveEnds_8 : decode cX0_shelveEnds 8 = .ok (.iload_n 2, 1) := by decide +kernel
theorem dX0_shelveEnds_9 : decode cX0_shelveEnds 9 = .ok (.invokevirtual 105, 3) := by decide +kernel
theorem dX0_shelveEnds_12 : decode cX0_shelveEnds 12 = .ok (.lstore 5, 2) := by decide +kernel
theorem dX0_shelveEnds_14 : decode cX0_shelveEnds 14 = .ok (.lload 5, 2) := by decide +kernel
theorem dX0_shelveEnds_16 : decode cX0_shelveEnds 16 = .ok (.lconst 1, 1) := by decide +kernel
theorem dX0_shelveEnds_17 : decode cX0_shelveEnds 17 = .ok (.iload_n 2, 1) := by decide +kernel
theorem dX0_shelveEnds_18 : decode cX0_shelveEnds 18 = .ok (.lshl, 1) := by decide +kernel
theorem dX0_shelveEnds_19 : decode cX0_shelveEnds 19 = .ok (.lor, 1) := by decide +kernel
theorem dX0_shelveEnds_20 : decode cX0_shelveEnds 20 = .ok (.lstore 7, 2) := by decide +kernel
theorem dX0_shelveEnds_22 : decode cX0_shelveEnds 22 = .ok (.iload_n 2, 1) := by decide +kernel
theorem dX0_shelveEnds_23 : decode cX0_shelveEnds 23 = .ok (.iconst 1, 1) := by decide +kernel
theorem dX0_shelveEnds_24 : decode cX0_shelveEnds 24 = .ok (.isub, 1) := by decide +kernel
theorem dX0_shelveEnds_25 : decode cX0_shelveEnds 25 = .ok (.istore 9, 2) := by decide +kernel
theorem dX0_shelveEnds_27 : decode cX0_shelveEnds 27 = .ok (.iload 9, 2) := by decide +kernel
theorem dX0_shelveEnds_29 : decode cX0_shelveEnds 29 = .ok (.iload_n 1, 1) := by decide +kernel
theorem dX0_shelveEnds_30 : decode cX0_shelveEnds 30 = .ok (.if_icmp .le 31, 3) := by decide +kernel
theorem dX0_shelveEnds_33 : decode cX0_shelveEnds 33 = .ok (.lload 5, 2) := by decide +kernel
theorem dX0_shelveEnds_35 : decode cX0_shelveEnds 35 = .ok (.iload 9, 2) := by decide +kernel
theorem dX0_shelveEnds_37 : decode cX0_shelveEnds 37 = .ok (.invokestatic 86, 3) := by decide +kernel
theorem dX0_shelveEnds_40 : decode cX0_shelveEnds 40 = .ok (.ifCond .eq 15, 3) := by decide +kernel
theorem dX0_shelveEnds_43 : decode cX0_shelveEnds 43 = .ok (.aload_n 0, 1) := by decide +kernel
theorem dX0_shelveEnds_44 : decode cX0_shelveEnds 44 = .ok (.iload 9, 2) := by decide +kernel
theorem dX0_shelveEnds_46 : decode cX0_shelveEnds 46 = .ok (.iload_n 2, 1) := by decide +kernel
theorem dX0_shelveEnds_47 : decode cX0_shelveEnds 47 = .ok (.lload 7, 2) := by decide +kernel
theorem dX0_shelveEnds_49 : decode cX0_shelveEnds 49 = .ok (.iload 4, 2) := by decide +kernel
theorem dX0_shelveEnds_51 : decode cX0_shelveEnds 51 = .ok (.iload_n 3, 1) := by decide +kernel
theorem dX0_shelveEnds_52 : decode cX0_shelveEnds 52 = .ok (.invokevirtual 135, 3) := by decide +kernel
theorem dX0_shelveEnds_55 : decode cX0_shelveEnds 55 = .ok (.iinc 9 (-1), 3) := by decide +kernel
theorem dX0_shelveEnds_58 : decode cX0_shelveEnds 58 = .ok (.goto (-31), 3) := by decide +kernel
theorem dX0_shelveEnds_61 : decode cX0_shelveEnds 61 = .ok (.aload_n 0, 1) := by decide +kernel
theorem dX0_shelveEnds_62 : decode cX0_shelveEnds 62 = .ok (.iload_n 1, 1) := by decide +kernel
theorem dX0_shelveEnds_63 : decode cX0_shelveEnds 63 = .ok (.iload_n 2, 1) := by decide +kernel
theorem dX0_shelveEnds_64 : decode cX0_shelveEnds 64 = .ok (.lload 7, 2) := by decide +kernel
theorem dX0_shelveEnds_66 : decode cX0_shelveEnds 66 = .ok (.iload 4, 2) := by decide +kernel
theorem dX0_shelveEnds_68 : decode cX0_shelveEnds 68 = .ok (.iload_n 3, 1) := by decide +kernel
theorem dX0_shelveEnds_69 : decode cX0_shelveEnds 69 = .ok (.invokevirtual 135, 3) := by decide +kernel
theorem dX0_shelveEnds_72 : decode cX0_shelveEnds 72 = .ok (.return_, 1) := by decide +kernel
set_option maxRecDepth 20000 in
theorem ggX0_shelveEndsAt_X0_has : GoodIn wsX0_shelveEndsAt wsX0_has := goodIn_r _ [7] (by decide +kernel) (by decide +kernel)
set_option maxRecDepth 20000 in
theorem gX0_shelveEndsAt_X0_has : GoodIn wsX0_shelveEndsAt (va_wsS RX0 86 yX0_has wsX0_has) := goodIn_app (goodIn_of _ (by decide +kernel)) ggX0_shelveEndsAt_X0_has
set_option maxRecDepth 20000 in
theorem ggX0_shelveEndsAt_J13_bitCount_95d88 : GoodIn wsX0_shelveEndsAt wsJ13_bitCount_95d88 := goodIn_r _ [11, 12, 13, 14] (by decide +kernel) (by decide +kernel)
set_option maxRecDepth 20000 in
theorem gX0_shelveEndsAt_J13_bitCount_95d88 : GoodIn wsX0_shelveEndsAt (va_wsS RX0 90 yJ13_bitCount_95d88 wsJ13_bitCount_95d88) := goodIn_app (goodIn_of _ (by decide +kernel)) ggX0_shelveEndsAt_J13_bitCount_95d88
set_option maxRecDepth 20000 in
theorem ggX0_shelveEndsAt_X0_signCost : GoodIn wsX0_shelveEndsAt wsX0_signCost := goodIn_r _ [17] (by decide +kernel) (by decide +kernel)
set_option maxRecDepth 20000 in
theorem gX0_shelveEndsAt_X0_signCost : GoodIn wsX0_shelveEndsAt (va_wsS RX0 139 yX0_signCost wsX0_signCost) := goodIn_app (goodIn_of _ (by decide +kernel)) ggX0_shelveEndsAt_X0_signCost
set_option maxRecDepth 20000 in
theorem ggX0_shelveEndsAt_X0_touch : GoodIn wsX0_shelveEndsAt wsX0_touch := goodIn_r _ [21, 2, 8, 9, 10, 11, 12, 13, 14, 39, 40, 41, 42, 43, 44, 45, 46, 47, 48, 49] (by decide +kernel) (by decide +kernel)
set_option maxRecDepth 20000 in
theorem gX0_shelveEndsAt_X0_touch : GoodIn wsX0_shelveEndsAt (wsV RX0 125 RX0 yX0_touch wsX0_touch) := goodIn_app (goodIn_of _ (by decide +kernel)) ggX0_shelveEndsAt_X0_touch
set_option maxRecDepth 20000 in
theorem ggX0_shelveEndsAt_X0_goOnFrom : GoodIn wsX0_shelveEndsAt wsX0_goOnFrom := goodIn_r _ [25, 1, 26, 27, 28, 29, 6, 30, 31, 32, 33, 34, 35, 36, 37, 38, 39, 40, 41, 42, 43, 44, 45, 46, 47, 48, 49] (by decide +kernel) (by decide +kernel)
set_option maxRecDepth 20000 in
theorem gX0_shelveEndsAt_X0_goOnFrom : GoodIn wsX0_shelveEndsAt (wsV RX0 143 RX0 yX0_goOnFrom wsX0_goOnFrom) := goodIn_app (goodIn_of _ (by decide +kernel)) ggX0_shelveEndsAt_X0_goOnFrom
theorem dX0_shelveEndsAt_0 : decode cX0_shelveEndsAt 0 = .ok (.aload_n 0, 1) := by decide +kernel
theorem dX0_shelveEndsAt_1 : decode cX0_shelveEndsAt 1 = .ok (.getfield 39, 3) := by decide +kernel
theorem dX0_shelveEndsAt_4 : decode cX0_shelveEndsAt 4 = .ok (.iload_n 1, 1) := by decide +kernel
theorem dX0_shelveEndsAt_5 : decode cX0_shelveEndsAt 5 = .ok (.iconst 0, 1) := by decide +kernel
theorem dX0_shelveEndsAt_6 : decode cX0_shelveEndsAt 6 = .ok (.iastore, 1) := by decide +kernel
theorem dX0_shelveEndsAt_7 : decode cX0_shelveEndsAt 7 = .ok (.iconst (-1), 1) := by decide +kernel
theorem dX0_shelveEndsAt_8 : decode cX0_shelveEndsAt 8 = .ok (.istore 7, 2) := by decide +kernel
theorem dX0_shelveEndsAt_10 : decode cX0_shelveEndsAt 10 = .ok (.iconst (-1), 1) := by decide +kernel
theorem dX0_shelveEndsAt_11 : decode cX0_shelveEndsAt 11 = .ok (.istore 8, 2) := by decide +kernel
theorem dX0_shelveEndsAt_13 : decode cX0_shelveEndsAt 13 = .ok (.iconst 0, 1) := by decide +kernel
theorem dX0_shelveEndsAt_14 : decode cX0_shelveEndsAt 14 = .ok (.istore 9, 2) := by decide +kernel
theorem dX0_shelveEndsAt_16 : decode cX0_shelveEndsAt 16 = .ok (.lconst 0, 1) := by decide +kernel
theorem dX0_shelveEndsAt_17 : decode cX0_shelveEndsAt 17 = .ok (.lstore 10, 2) := by decide +kernel
theorem dX0_shelveEndsAt_19 : decode cX0_shelveEndsAt 19 = .ok (.lconst 0, 1) := by decide +kernel
theorem dX0_shelveEndsAt_20 : decode cX0_shelveEndsAt 20 = .ok (.lstore 12, 2) := by decide +kernel
theorem dX0_shelveEndsAt_22 : decode cX0_shelveEndsAt 22 = .ok (.lconst 0, 1) := by decide +kernel
theorem dX0_shelveEndsAt_23 : decode cX0_shelveEndsAt 23 = .ok (.lstore 14, 2) := by decide +kernel
theorem dX0_shelveEndsAt_25 : decode cX0_shelveEndsAt 25 = .ok (.iload_n 1, 1) := by decide +kernel
theorem dX0_shelveEndsAt_26 : decode cX0_shelveEndsAt 26 = .ok (.istore 16, 2) := by decide +kernel
theorem dX0_shelveEndsAt_28 : decode cX0_shelveEndsAt 28 = .ok (.iload 16, 2) := by decide +kernel
theorem dX0_shelveEndsAt_30 : decode cX0_shelveEndsAt 30 = .ok (.iload_n 2, 1) := by decide +kernel
theorem dX0_shelveEndsAt_31 : decode cX0_shelveEndsAt 31 = .ok (.if_icmp .ge 159, 3) := by decide +kernel
theorem dX0_shelveEndsAt_34 : decode cX0_shelveEndsAt 34 = .ok (.aload_n 0, 1) := by decide +kernel
theorem dX0_shelveEndsAt_35 : decode cX0_shelveEndsAt 35 = .ok (.getfield 25, 3) := by decide +kernel
theorem dX0_shelveEndsAt_38 : decode cX0_shelveEndsAt 38 = .ok (.iload 16, 2) := by decide +kernel
theorem dX0_shelveEndsAt_40 : decode cX0_shelveEndsAt 40 = .ok (.laload, 1) := by decide +kernel
theorem dX0_shelveEndsAt_41 : decode cX0_shelveEndsAt 41 = .ok (.lstore 17, 2) := by decide +kernel
theorem dX0_shelveEndsAt_43 : decode cX0_shelveEndsAt 43 = .ok (.lload 14, 2) := by decide +kernel
theorem dX0_shelveEndsAt_45 : decode cX0_shelveEndsAt 45 = .ok (.lload 12, 2) := by decide +kernel
theorem dX0_shelveEndsAt_47 : decode cX0_shelveEndsAt 47 = .ok (.lload 17, 2) := by decide +kernel
theorem dX0_shelveEndsAt_49 : decode cX0_shelveEndsAt 49 = .ok (.land, 1) := by decide +kernel
theorem dX0_shelveEndsAt_50 : decode cX0_shelveEndsAt 50 = .ok (.lor, 1) := by decide +kernel
theorem dX0_shelveEndsAt_51 : decode cX0_shelveEndsAt 51 = .ok (.lstore 14, 2) := by decide +kernel
theorem dX0_shelveEndsAt_53 : decode cX0_shelveEndsAt 53 = .ok (.lload 12, 2) := by decide +kernel
theorem dX0_shelveEndsAt_55 : decode cX0_shelveEndsAt 55 = .ok (.lload 10, 2) := by decide +kernel
theorem dX0_shelveEndsAt_57 : decode cX0_shelveEndsAt 57 = .ok (.lload 17, 2) := by decide +kernel
theorem dX0_shelveEndsAt_59 : decode cX0_shelveEndsAt 59 = .ok (.ldc2_w 55, 3) := by decide +kernel
theorem dX0_shelveEndsAt_62 : decode cX0_shelveEndsAt 62 = .ok (.lxor, 1) := by decide +kernel
theorem dX0_shelveEndsAt_63 : decode cX0_shelveEndsAt 63 = .ok (.land, 1) := by decide +kernel
theorem dX0_shelveEndsAt_64 : decode cX0_shelveEndsAt 64 = .ok (.lor, 1) := by decide +kernel
theorem dX0_shelveEndsAt_65 : decode cX0_shelveEndsAt 65 = .ok (.lstore 12, 2) := by decide +kernel
theorem dX0_shelveEndsAt_67 : decode cX0_shelveEndsAt 67 = .ok (.lload 10, 2) := by decide +kernel
theorem dX0_shelveEndsAt_69 : decode cX0_shelveEndsAt 69 = .ok (.lload 17, 2) := by decide +kernel
theorem dX0_shelveEndsAt_71 : decode cX0_shelveEndsAt 71 = .ok (.lor, 1) := by decide +kernel
theorem dX0_shelveEndsAt_72 : decode cX0_shelveEndsAt 72 = .ok (.lstore 10, 2) := by decide +kernel
theorem dX0_shelveEndsAt_74 : decode cX0_shelveEndsAt 74 = .ok (.lload 17, 2) := by decide +kernel
theorem dX0_shelveEndsAt_76 : decode cX0_shelveEndsAt 76 = .ok (.lconst 0, 1) := by decide +kernel
theorem dX0_shelveEndsAt_77 : decode cX0_shelveEndsAt 77 = .ok (.lcmp, 1) := by decide +kernel
theorem dX0_shelveEndsAt_78 : decode cX0_shelveEndsAt 78 = .ok (.ifCond .eq 25, 3) := by decide +kernel
theorem dX0_shelveEndsAt_81 : decode cX0_shelveEndsAt 81 = .ok (.iload 7, 2) := by decide +kernel
theorem dX0_shelveEndsAt_83 : decode cX0_shelveEndsAt 83 = .ok (.iconst (-1), 1) := by decide +kernel
theorem dX0_shelveEndsAt_84 : decode cX0_shelveEndsAt 84 = .ok (.if_icmp .ne 8, 3) := by decide +kernel
theorem dX0_shelveEndsAt_87 : decode cX0_shelveEndsAt 87 = .ok (.iload 16, 2) := by decide +kernel
theorem dX0_shelveEndsAt_89 : decode cX0_shelveEndsAt 89 = .ok (.goto 5, 3) := by decide +kernel
theorem dX0_shelveEndsAt_92 : decode cX0_shelveEndsAt 92 = .ok (.iload 7, 2) := by decide +kernel
theorem dX0_shelveEndsAt_94 : decode cX0_shelveEndsAt 94 = .ok (.istore 7, 2) := by decide +kernel
theorem dX0_shelveEndsAt_96 : decode cX0_shelveEndsAt 96 = .ok (.iload 16, 2) := by decide +kernel
theorem dX0_shelveEndsAt_98 : decode cX0_shelveEndsAt 98 = .ok (.istore 8, 2) := by decide +kernel
theorem dX0_shelveEndsAt_100 : decode cX0_shelveEndsAt 100 = .ok (.iinc 9 1, 3) := by decide +kernel
theorem dX0_shelveEndsAt_103 : decode cX0_shelveEndsAt 103 = .ok (.iload 16, 2) := by decide +kernel
theorem dX0_shelveEndsAt_105 : decode cX0_shelveEndsAt 105 = .ok (.iconst 1, 1) := by decide +kernel
theorem dX0_shelveEndsAt_106 : decode cX0_shelveEndsAt 106 = .ok (.iadd, 1) := by decide +kernel
theorem dX0_shelveEndsAt_107 : decode cX0_shelveEndsAt 107 = .ok (.istore 19, 2) := by decide +kernel
theorem dX0_shelveEndsAt_109 : decode cX0_shelveEndsAt 109 = .ok (.lload 10, 2) := by decide +kernel
theorem dX0_shelveEndsAt_111 : decode cX0_shelveEndsAt 111 = .ok (.lconst 0, 1) := by decide +kernel
theorem dX0_shelveEndsAt_112 : decode cX0_shelveEndsAt 112 = .ok (.lcmp, 1) := by decide +kernel
theorem dX0_shelveEndsAt_113 : decode cX0_shelveEndsAt 113 = .ok (.ifCond .eq 71, 3) := by decide +kernel
theorem dX0_shelveEndsAt_116 : decode cX0_shelveEndsAt 116 = .ok (.lload_n 3, 1) := by decide +kernel
theorem dX0_shelveEndsAt_117 : decode cX0_shelveEndsAt 117 = .ok (.iload 19, 2) := by decide +kernel
theorem dX0_shelveEndsAt_119 : decode cX0_shelveEndsAt 119 = .ok (.invokestatic 86, 3) := by decide +kernel
theorem dX0_shelveEndsAt_122 : decode cX0_shelveEndsAt 122 = .ok (.ifCond .eq 62, 3) := by decide +kernel
theorem dX0_shelveEndsAt_125 : decode cX0_shelveEndsAt 125 = .ok (.iload 8, 2) := by decide +kernel
theorem dX0_shelveEndsAt_127 : decode cX0_shelveEndsAt 127 = .ok (.iload 7, 2) := by decide +kernel
end
section
theorem dX0_shelveEndsAt_129 : decode cX0_shelveEndsAt 129 = .ok (.isub, 1) := by decide +kernel
theorem dX0_shelveEndsAt_130 : decode cX0_shelveEndsAt 130 = .ok (.iconst 1, 1) := by decide +kernel
theorem dX0_shelveEndsAt_131 : decode cX0_shelveEndsAt 131 = .ok (.iadd, 1) := by decide +kernel
theorem dX0_shelveEndsAt_132 : decode cX0_shelveEndsAt 132 = .ok (.istore 20, 2) := by decide +kernel
theorem dX0_shelveEndsAt_134 : decode cX0_shelveEndsAt 134 = .ok (.iload 20, 2) := by decide +kernel
theorem dX0_shelveEndsAt_136 : decode cX0_shelveEndsAt 136 = .ok (.iload 20, 2) := by decide +kernel
theorem dX0_shelveEndsAt_138 : decode cX0_shelveEndsAt 138 = .ok (.iload 9, 2) := by decide +kernel
theorem dX0_shelveEndsAt_140 : decode cX0_shelveEndsAt 140 = .ok (.isub, 1) := by decide +kernel
theorem dX0_shelveEndsAt_141 : decode cX0_shelveEndsAt 141 = .ok (.lload 14, 2) := by decide +kernel
theorem dX0_shelveEndsAt_143 : decode cX0_shelveEndsAt 143 = .ok (.invokestatic 90, 3) := by decide +kernel
theorem dX0_shelveEndsAt_146 : decode cX0_shelveEndsAt 146 = .ok (.iload 5, 2) := by decide +kernel
theorem dX0_shelveEndsAt_148 : decode cX0_shelveEndsAt 148 = .ok (.invokestatic 139, 3) := by decide +kernel
theorem dX0_shelveEndsAt_151 : decode cX0_shelveEndsAt 151 = .ok (.istore 21, 2) := by decide +kernel
theorem dX0_shelveEndsAt_153 : decode cX0_shelveEndsAt 153 = .ok (.aload_n 0, 1) := by decide +kernel
theorem dX0_shelveEndsAt_154 : decode cX0_shelveEndsAt 154 = .ok (.iload 19, 2) := by decide +kernel
theorem dX0_shelveEndsAt_156 : decode cX0_shelveEndsAt 156 = .ok (.iload_n 1, 1) := by decide +kernel
theorem dX0_shelveEndsAt_157 : decode cX0_shelveEndsAt 157 = .ok (.iload 21, 2) := by decide +kernel
theorem dX0_shelveEndsAt_159 : decode cX0_shelveEndsAt 159 = .ok (.iload 19, 2) := by decide +kernel
theorem dX0_shelveEndsAt_161 : decode cX0_shelveEndsAt 161 = .ok (.iload_n 2, 1) := by decide +kernel
theorem dX0_shelveEndsAt_162 : decode cX0_shelveEndsAt 162 = .ok (.if_icmp .ge 15, 3) := by decide +kernel
theorem dX0_shelveEndsAt_165 : decode cX0_shelveEndsAt 165 = .ok (.bipush 10, 2) := by decide +kernel
theorem dX0_shelveEndsAt_167 : decode cX0_shelveEndsAt 167 = .ok (.aload_n 0, 1) := by decide +kernel
theorem dX0_shelveEndsAt_168 : decode cX0_shelveEndsAt 168 = .ok (.iload 19, 2) := by decide +kernel
theorem dX0_shelveEndsAt_170 : decode cX0_shelveEndsAt 170 = .ok (.invokevirtual 125, 3) := by decide +kernel
theorem dX0_shelveEndsAt_173 : decode cX0_shelveEndsAt 173 = .ok (.imul, 1) := by decide +kernel
theorem dX0_shelveEndsAt_174 : decode cX0_shelveEndsAt 174 = .ok (.goto 4, 3) := by decide +kernel
theorem dX0_shelveEndsAt_177 : decode cX0_shelveEndsAt 177 = .ok (.iconst 0, 1) := by decide +kernel
theorem dX0_shelveEndsAt_178 : decode cX0_shelveEndsAt 178 = .ok (.iadd, 1) := by decide +kernel
theorem dX0_shelveEndsAt_179 : decode cX0_shelveEndsAt 179 = .ok (.iload 6, 2) := by decide +kernel
theorem dX0_shelveEndsAt_181 : decode cX0_shelveEndsAt 181 = .ok (.invokevirtual 143, 3) := by decide +kernel
theorem dX0_shelveEndsAt_184 : decode cX0_shelveEndsAt 184 = .ok (.iinc 16 1, 3) := by decide +kernel
theorem dX0_shelveEndsAt_187 : decode cX0_shelveEndsAt 187 = .ok (.goto (-159), 3) := by decide +kernel
theorem dX0_shelveEndsAt_190 : decode cX0_shelveEndsAt 190 = .ok (.return_, 1) := by decide +kernel
theorem dX0_signCost_0 : decode cX0_signCost 0 = .ok (.iload_n 0, 1) := by decide +kernel
theorem dX0_signCost_1 : decode cX0_signCost 1 = .ok (.iload_n 3, 1) := by decide +kernel
theorem dX0_signCost_2 : decode cX0_signCost 2 = .ok (.isub, 1) := by decide +kernel
theorem dX0_signCost_3 : decode cX0_signCost 3 = .ok (.istore 4, 2) := by decide +kernel
theorem dX0_signCost_5 : decode cX0_signCost 5 = .ok (.iload_n 2, 1) := by decide +kernel
theorem dX0_signCost_6 : decode cX0_signCost 6 = .ok (.ifCond .ne 7, 3) := by decide +kernel
theorem dX0_signCost_9 : decode cX0_signCost 9 = .ok (.iconst 0, 1) := by decide +kernel
theorem dX0_signCost_10 : decode cX0_signCost 10 = .ok (.goto 8, 3) := by decide +kernel
theorem dX0_signCost_13 : decode cX0_signCost 13 = .ok (.iconst 2, 1) := by decide +kernel
theorem dX0_signCost_14 : decode cX0_signCost 14 = .ok (.iload_n 2, 1) := by decide +kernel
theorem dX0_signCost_15 : decode cX0_signCost 15 = .ok (.iconst 1, 1) := by decide +kernel
theorem dX0_signCost_16 : decode cX0_signCost 16 = .ok (.isub, 1) := by decide +kernel
theorem dX0_signCost_17 : decode cX0_signCost 17 = .ok (.imul, 1) := by decide +kernel
theorem dX0_signCost_18 : decode cX0_signCost 18 = .ok (.istore 5, 2) := by decide +kernel
theorem dX0_signCost_20 : decode cX0_signCost 20 = .ok (.iload 4, 2) := by decide +kernel
theorem dX0_signCost_22 : decode cX0_signCost 22 = .ok (.iload 4, 2) := by decide +kernel
theorem dX0_signCost_24 : decode cX0_signCost 24 = .ok (.imul, 1) := by decide +kernel
theorem dX0_signCost_25 : decode cX0_signCost 25 = .ok (.iconst 5, 1) := by decide +kernel
theorem dX0_signCost_26 : decode cX0_signCost 26 = .ok (.iload_n 1, 1) := by decide +kernel
theorem dX0_signCost_27 : decode cX0_signCost 27 = .ok (.imul, 1) := by decide +kernel
theorem dX0_signCost_28 : decode cX0_signCost 28 = .ok (.iadd, 1) := by decide +kernel
theorem dX0_signCost_29 : decode cX0_signCost 29 = .ok (.iload 5, 2) := by decide +kernel
theorem dX0_signCost_31 : decode cX0_signCost 31 = .ok (.iadd, 1) := by decide +kernel
theorem dX0_signCost_32 : decode cX0_signCost 32 = .ok (.ireturn, 1) := by decide +kernel
set_option maxRecDepth 20000 in
theorem ggX0_goOnFrom_X0_shelf : GoodIn wsX0_goOnFrom wsX0_shelf := goodIn_r _ [7] (by decide +kernel) (by decide +kernel)
set_option maxRecDepth 20000 in
theorem gX0_goOnFrom_X0_shelf : GoodIn wsX0_goOnFrom (va_wsS RX0 82 yX0_shelf wsX0_shelf) := goodIn_app (goodIn_of _ (by decide +kernel)) ggX0_goOnFrom_X0_shelf
set_option maxRecDepth 20000 in
theorem ggX0_goOnFrom_X0_shelve : GoodIn wsX0_goOnFrom wsX0_shelve := goodIn_r _ [11, 1, 2, 12, 13, 14, 15, 3, 4, 5, 6, 7, 16, 17, 18, 19, 20, 21, 22, 23, 24, 25, 26] (by decide +kernel) (by decide +kernel)
set_option maxRecDepth 20000 in
theorem gX0_goOnFrom_X0_shelve : GoodIn wsX0_goOnFrom (wsV RX0 147 RX0 yX0_shelve wsX0_shelve) := goodIn_app (goodIn_of _ (by decide +kernel)) ggX0_goOnFrom_X0_shelve
theorem dX0_goOnFrom_0 : decode cX0_goOnFrom 0 = .ok (.aload_n 0, 1) := by decide +kernel
theorem dX0_goOnFrom_1 : decode cX0_goOnFrom 1 = .ok (.getfield 39, 3) := by decide +kernel
theorem dX0_goOnFrom_4 : decode cX0_goOnFrom 4 = .ok (.iload_n 1, 1) := by decide +kernel
theorem dX0_goOnFrom_5 : decode cX0_goOnFrom 5 = .ok (.iaload, 1) := by decide +kernel
theorem dX0_goOnFrom_6 : decode cX0_goOnFrom 6 = .ok (.istore 5, 2) := by decide +kernel
theorem dX0_goOnFrom_8 : decode cX0_goOnFrom 8 = .ok (.iconst 0, 1) := by decide +kernel
theorem dX0_goOnFrom_9 : decode cX0_goOnFrom 9 = .ok (.istore 6, 2) := by decide +kernel
theorem dX0_goOnFrom_11 : decode cX0_goOnFrom 11 = .ok (.iload 6, 2) := by decide +kernel
theorem dX0_goOnFrom_13 : decode cX0_goOnFrom 13 = .ok (.iload 5, 2) := by decide +kernel
theorem dX0_goOnFrom_15 : decode cX0_goOnFrom 15 = .ok (.if_icmp .ge 49, 3) := by decide +kernel
theorem dX0_goOnFrom_18 : decode cX0_goOnFrom 18 = .ok (.iload_n 1, 1) := by decide +kernel
theorem dX0_goOnFrom_19 : decode cX0_goOnFrom 19 = .ok (.invokestatic 82, 3) := by decide +kernel
theorem dX0_goOnFrom_22 : decode cX0_goOnFrom 22 = .ok (.iload 6, 2) := by decide +kernel
theorem dX0_goOnFrom_24 : decode cX0_goOnFrom 24 = .ok (.iadd, 1) := by decide +kernel
theorem dX0_goOnFrom_25 : decode cX0_goOnFrom 25 = .ok (.istore 7, 2) := by decide +kernel
theorem dX0_goOnFrom_27 : decode cX0_goOnFrom 27 = .ok (.aload_n 0, 1) := by decide +kernel
theorem dX0_goOnFrom_28 : decode cX0_goOnFrom 28 = .ok (.iload_n 2, 1) := by decide +kernel
theorem dX0_goOnFrom_29 : decode cX0_goOnFrom 29 = .ok (.iload_n 3, 1) := by decide +kernel
theorem dX0_goOnFrom_30 : decode cX0_goOnFrom 30 = .ok (.aload_n 0, 1) := by decide +kernel
theorem dX0_goOnFrom_31 : decode cX0_goOnFrom 31 = .ok (.getfield 35, 3) := by decide +kernel
theorem dX0_goOnFrom_34 : decode cX0_goOnFrom 34 = .ok (.iload 7, 2) := by decide +kernel
theorem dX0_goOnFrom_36 : decode cX0_goOnFrom 36 = .ok (.iaload, 1) := by decide +kernel
theorem dX0_goOnFrom_37 : decode cX0_goOnFrom 37 = .ok (.iadd, 1) := by decide +kernel
theorem dX0_goOnFrom_38 : decode cX0_goOnFrom 38 = .ok (.aload_n 0, 1) := by decide +kernel
theorem dX0_goOnFrom_39 : decode cX0_goOnFrom 39 = .ok (.getfield 32, 3) := by decide +kernel
theorem dX0_goOnFrom_42 : decode cX0_goOnFrom 42 = .ok (.iload 7, 2) := by decide +kernel
theorem dX0_goOnFrom_44 : decode cX0_goOnFrom 44 = .ok (.laload, 1) := by decide +kernel
theorem dX0_goOnFrom_45 : decode cX0_goOnFrom 45 = .ok (.lconst 1, 1) := by decide +kernel
theorem dX0_goOnFrom_46 : decode cX0_goOnFrom 46 = .ok (.iload_n 2, 1) := by decide +kernel
theorem dX0_goOnFrom_47 : decode cX0_goOnFrom 47 = .ok (.lshl, 1) := by decide +kernel
theorem dX0_goOnFrom_48 : decode cX0_goOnFrom 48 = .ok (.lor, 1) := by decide +kernel
theorem dX0_goOnFrom_49 : decode cX0_goOnFrom 49 = .ok (.iload 4, 2) := by decide +kernel
theorem dX0_goOnFrom_51 : decode cX0_goOnFrom 51 = .ok (.invokevirtual 147, 3) := by decide +kernel
theorem dX0_goOnFrom_54 : decode cX0_goOnFrom 54 = .ok (.ifCond .ne 4, 3) := by decide +kernel
theorem dX0_goOnFrom_57 : decode cX0_goOnFrom 57 = .ok (.return_, 1) := by decide +kernel
theorem dX0_goOnFrom_58 : decode cX0_goOnFrom 58 = .ok (.iinc 6 1, 3) := by decide +kernel
theorem dX0_goOnFrom_61 : decode cX0_goOnFrom 61 = .ok (.goto (-50), 3) := by decide +kernel
theorem dX0_goOnFrom_64 : decode cX0_goOnFrom 64 = .ok (.return_, 1) := by decide +kernel
set_option maxRecDepth 20000 in
theorem ggX0_shelve_X0_shelf : GoodIn wsX0_shelve wsX0_shelf := goodIn_r _ [11] (by decide +kernel) (by decide +kernel)
set_option maxRecDepth 20000 in
theorem gX0_shelve_X0_shelf : GoodIn wsX0_shelve (va_wsS RX0 82 yX0_shelf wsX0_shelf) := goodIn_app (goodIn_of _ (by decide +kernel)) ggX0_shelve_X0_shelf
theorem dX0_shelve_0 : decode cX0_shelve 0 = .ok (.iload_n 1, 1) := by decide +kernel
theorem dX0_shelve_1 : decode cX0_shelve 1 = .ok (.invokestatic 82, 3) := by decide +kernel
theorem dX0_shelve_4 : decode cX0_shelve 4 = .ok (.istore 6, 2) := by decide +kernel
theorem dX0_shelve_6 : decode cX0_shelve 6 = .ok (.aload_n 0, 1) := by decide +kernel
theorem dX0_shelve_7 : decode cX0_shelve 7 = .ok (.getfield 39, 3) := by decide +kernel
theorem dX0_shelve_10 : decode cX0_shelve 10 = .ok (.iload_n 1, 1) := by decide +kernel
theorem dX0_shelve_11 : decode cX0_shelve 11 = .ok (.iaload, 1) := by decide +kernel
theorem dX0_shelve_12 : decode cX0_shelve 12 = .ok (.istore 7, 2) := by decide +kernel
theorem dX0_shelve_14 : decode cX0_shelve 14 = .ok (.iload 7, 2) := by decide +kernel
theorem dX0_shelve_16 : decode cX0_shelve 16 = .ok (.iload 5, 2) := by decide +kernel
theorem dX0_shelve_18 : decode cX0_shelve 18 = .ok (.if_icmp .lt 21, 3) := by decide +kernel
theorem dX0_shelve_21 : decode cX0_shelve 21 = .ok (.aload_n 0, 1) := by decide +kernel
theorem dX0_shelve_22 : decode cX0_shelve 22 = .ok (.getfield 35, 3) := by decide +kernel
theorem dX0_shelve_25 : decode cX0_shelve 25 = .ok (.iload 6, 2) := by decide +kernel
theorem dX0_shelve_27 : decode cX0_shelve 27 = .ok (.iload 5, 2) := by decide +kernel
theorem dX0_shelve_29 : decode cX0_shelve 29 = .ok (.iadd, 1) := by decide +kernel
theorem dX0_shelve_30 : decode cX0_shelve 30 = .ok (.iconst 1, 1) := by decide +kernel
theorem dX0_shelve_31 : decode cX0_shelve 31 = .ok (.isub, 1) := by decide +kernel
theorem dX0_shelve_32 : decode cX0_shelve 32 = .ok (.iaload, 1) := by decide +kernel
theorem dX0_shelve_33 : decode cX0_shelve 33 = .ok (.iload_n 2, 1) := by decide +kernel
theorem dX0_shelve_34 : decode cX0_shelve 34 = .ok (.if_icmp .gt 5, 3) := by decide +kernel
theorem dX0_shelve_37 : decode cX0_shelve 37 = .ok (.iconst 0, 1) := by decide +kernel
theorem dX0_shelve_38 : decode cX0_shelve 38 = .ok (.ireturn, 1) := by decide +kernel
theorem dX0_shelve_39 : decode cX0_shelve 39 = .ok (.iload 7, 2) := by decide +kernel
theorem dX0_shelve_41 : decode cX0_shelve 41 = .ok (.iload 5, 2) := by decide +kernel
theorem dX0_shelve_43 : decode cX0_shelve 43 = .ok (.iconst 1, 1) := by decide +kernel
theorem dX0_shelve_44 : decode cX0_shelve 44 = .ok (.isub, 1) := by decide +kernel
theorem dX0_shelve_45 : decode cX0_shelve 45 = .ok (.invokestatic 9, 3) := by decide +kernel
theorem dX0_shelve_48 : decode cX0_shelve 48 = .ok (.istore 8, 2) := by decide +kernel
theorem dX0_shelve_50 : decode cX0_shelve 50 = .ok (.iload 8, 2) := by decide +kernel
theorem dX0_shelve_52 : decode cX0_shelve 52 = .ok (.ifCond .le 69, 3) := by decide +kernel
theorem dX0_shelve_55 : decode cX0_shelve 55 = .ok (.aload_n 0, 1) := by decide +kernel
theorem dX0_shelve_56 : decode cX0_shelve 56 = .ok (.getfield 35, 3) := by decide +kernel
theorem dX0_shelve_59 : decode cX0_shelve 59 = .ok (.iload 6, 2) := by decide +kernel
theorem dX0_shelve_61 : decode cX0_shelve 61 = .ok (.iload 8, 2) := by decide +kernel
theorem dX0_shelve_63 : decode cX0_shelve 63 = .ok (.iadd, 1) := by decide +kernel
theorem dX0_shelve_64 : decode cX0_shelve 64 = .ok (.iconst 1, 1) := by decide +kernel
theorem dX0_shelve_65 : decode cX0_shelve 65 = .ok (.isub, 1) := by decide +kernel
theorem dX0_shelve_66 : decode cX0_shelve 66 = .ok (.iaload, 1) := by decide +kernel
theorem dX0_shelve_67 : decode cX0_shelve 67 = .ok (.iload_n 2, 1) := by decide +kernel
theorem dX0_shelve_68 : decode cX0_shelve 68 = .ok (.if_icmp .le 53, 3) := by decide +kernel
theorem dX0_shelve_71 : decode cX0_shelve 71 = .ok (.aload_n 0, 1) := by decide +kernel
theorem dX0_shelve_72 : decode cX0_shelve 72 = .ok (.getfield 35, 3) := by decide +kernel
theorem dX0_shelve_75 : decode cX0_shelve 75 = .ok (.iload 6, 2) := by decide +kernel
theorem dX0_shelve_77 : decode cX0_shelve 77 = .ok (.iload 8, 2) := by decide +kernel
theorem dX0_shelve_79 : decode cX0_shelve 79 = .ok (.iadd, 1) := by decide +kernel
theorem dX0_shelve_80 : decode cX0_shelve 80 = .ok (.aload_n 0, 1) := by decide +kernel
theorem dX0_shelve_81 : decode cX0_shelve 81 = .ok (.getfield 35, 3) := by decide +kernel
theorem dX0_shelve_84 : decode cX0_shelve 84 = .ok (.iload 6, 2) := by decide +kernel
theorem dX0_shelve_86 : decode cX0_shelve 86 = .ok (.iload 8, 2) := by decide +kernel
theorem dX0_shelve_88 : decode cX0_shelve 88 = .ok (.iadd, 1) := by decide +kernel
theorem dX0_shelve_89 : decode cX0_shelve 89 = .ok (.iconst 1, 1) := by decide +kernel
theorem dX0_shelve_90 : decode cX0_shelve 90 = .ok (.isub, 1) := by decide +kernel
theorem dX0_shelve_91 : decode cX0_shelve 91 = .ok (.iaload, 1) := by decide +kernel
theorem dX0_shelve_92 : decode cX0_shelve 92 = .ok (.iastore, 1) := by decide +kernel
theorem dX0_shelve_93 : decode cX0_shelve 93 = .ok (.aload_n 0, 1) := by decide +kernel
theorem dX0_shelve_94 : decode cX0_shelve 94 = .ok (.getfield 32, 3) := by decide +kernel
theorem dX0_shelve_97 : decode cX0_shelve 97 = .ok (.iload 6, 2) := by decide +kernel
theorem dX0_shelve_99 : decode cX0_shelve 99 = .ok (.iload 8, 2) := by decide +kernel
theorem dX0_shelve_101 : decode cX0_shelve 101 = .ok (.iadd, 1) := by decide +kernel
theorem dX0_shelve_102 : decode cX0_shelve 102 = .ok (.aload_n 0, 1) := by decide +kernel
theorem dX0_shelve_103 : decode cX0_shelve 103 = .ok (.getfield 32, 3) := by decide +kernel
theorem dX0_shelve_106 : decode cX0_shelve 106 = .ok (.iload 6, 2) := by decide +kernel
theorem dX0_shelve_108 : decode cX0_shelve 108 = .ok (.iload 8, 2) := by decide +kernel
theorem dX0_shelve_110 : decode cX0_shelve 110 = .ok (.iadd, 1) := by decide +kernel
theorem dX0_shelve_111 : decode cX0_shelve 111 = .ok (.iconst 1, 1) := by decide +kernel
theorem dX0_shelve_112 : decode cX0_shelve 112 = .ok (.isub, 1) := by decide +kernel
theorem dX0_shelve_113 : decode cX0_shelve 113 = .ok (.laload, 1) := by decide +kernel
theorem dX0_shelve_114 : decode cX0_shelve 114 = .ok (.lastore, 1) := by decide +kernel
theorem dX0_shelve_115 : decode cX0_shelve 115 = .ok (.iinc 8 (-1), 3) := by decide +kernel
theorem dX0_shelve_118 : decode cX0_shelve 118 = .ok (.goto (-68), 3) := by decide +kernel
theorem dX0_shelve_121 : decode cX0_shelve 121 = .ok (.aload_n 0, 1) := by decide +kernel
theorem dX0_shelve_122 : decode cX0_shelve 122 = .ok (.getfield 35, 3) := by decide +kernel
theorem dX0_shelve_125 : decode cX0_shelve 125 = .ok (.iload 6, 2) := by decide +kernel
theorem dX0_shelve_127 : decode cX0_shelve 127 = .ok (.iload 8, 2) := by decide +kernel
theorem dX0_shelve_129 : decode cX0_shelve 129 = .ok (.iadd, 1) := by decide +kernel
theorem dX0_shelve_130 : decode cX0_shelve 130 = .ok (.iload_n 2, 1) := by decide +kernel
theorem dX0_shelve_131 : decode cX0_shelve 131 = .ok (.iastore, 1) := by decide +kernel
theorem dX0_shelve_132 : decode cX0_shelve 132 = .ok (.aload_n 0, 1) := by decide +kernel
theorem dX0_shelve_133 : decode cX0_shelve 133 = .ok (.getfield 32, 3) := by decide +kernel
theorem dX0_shelve_136 : decode cX0_shelve 136 = .ok (.iload 6, 2) := by decide +kernel
theorem dX0_shelve_138 : decode cX0_shelve 138 = .ok (.iload 8, 2) := by decide +kernel
theorem dX0_shelve_140 : decode cX0_shelve 140 = .ok (.iadd, 1) := by decide +kernel
theorem dX0_shelve_141 : decode cX0_shelve 141 = .ok (.lload_n 3, 1) := by decide +kernel
theorem dX0_shelve_142 : decode cX0_shelve 142 = .ok (.lastore, 1) := by decide +kernel
theorem dX0_shelve_143 : decode cX0_shelve 143 = .ok (.aload_n 0, 1) := by decide +kernel
theorem dX0_shelve_144 : decode cX0_shelve 144 = .ok (.getfield 39, 3) := by decide +kernel
theorem dX0_shelve_147 : decode cX0_shelve 147 = .ok (.iload_n 1, 1) := by decide +kernel
theorem dX0_shelve_148 : decode cX0_shelve 148 = .ok (.iload 7, 2) := by decide +kernel
theorem dX0_shelve_150 : decode cX0_shelve 150 = .ok (.iconst 1, 1) := by decide +kernel
theorem dX0_shelve_151 : decode cX0_shelve 151 = .ok (.iadd, 1) := by decide +kernel
theorem dX0_shelve_152 : decode cX0_shelve 152 = .ok (.iload 5, 2) := by decide +kernel
theorem dX0_shelve_154 : decode cX0_shelve 154 = .ok (.invokestatic 9, 3) := by decide +kernel
theorem dX0_shelve_157 : decode cX0_shelve 157 = .ok (.iastore, 1) := by decide +kernel
theorem dX0_shelve_158 : decode cX0_shelve 158 = .ok (.iconst 1, 1) := by decide +kernel
theorem dX0_shelve_159 : decode cX0_shelve 159 = .ok (.ireturn, 1) := by decide +kernel
theorem dX1_init_0 : decode cX1_init 0 = .ok (.aload_n 0, 1) := by decide +kernel
theorem dX1_init_1 : decode cX1_init 1 = .ok (.invokespecial 1, 3) := by decide +kernel
theorem dX1_init_4 : decode cX1_init 4 = .ok (.aload_n 0, 1) := by decide +kernel
theorem dX1_init_5 : decode cX1_init 5 = .ok (.sipush 2400, 3) := by decide +kernel
theorem dX1_init_8 : decode cX1_init 8 = .ok (.newarray .boolean, 2) := by decide +kernel
theorem dX1_init_10 : decode cX1_init 10 = .ok (.putfield 7, 3) := by decide +kernel
theorem dX1_init_13 : decode cX1_init 13 = .ok (.aload_n 0, 1) := by decide +kernel
theorem dX1_init_14 : decode cX1_init 14 = .ok (.bipush 61, 2) := by decide +kernel
theorem dX1_init_16 : decode cX1_init 16 = .ok (.newarray .int, 2) := by decide +kernel
theorem dX1_init_18 : decode cX1_init 18 = .ok (.putfield 13, 3) := by decide +kernel
theorem dX1_init_21 : decode cX1_init 21 = .ok (.aload_n 0, 1) := by decide +kernel
theorem dX1_init_22 : decode cX1_init 22 = .ok (.sipush 2440, 3) := by decide +kernel
theorem dX1_init_25 : decode cX1_init 25 = .ok (.newarray .long, 2) := by decide +kernel
theorem dX1_init_27 : decode cX1_init 27 = .ok (.putfield 17, 3) := by decide +kernel
theorem dX1_init_30 : decode cX1_init 30 = .ok (.aload_n 0, 1) := by decide +kernel
theorem dX1_init_31 : decode cX1_init 31 = .ok (.sipush 2440, 3) := by decide +kernel
theorem dX1_init_34 : decode cX1_init 34 = .ok (.newarray .int, 2) := by decide +kernel
theorem dX1_init_36 : decode cX1_init 36 = .ok (.putfield 21, 3) := by decide +kernel
theorem dX1_init_39 : decode cX1_init 39 = .ok (.aload_n 0, 1) := by decide +kernel
theorem dX1_init_40 : decode cX1_init 40 = .ok (.sipush 2440, 3) := by decide +kernel
theorem dX1_init_43 : decode cX1_init 43 = .ok (.newarray .int, 2) := by decide +kernel
theorem dX1_init_45 : decode cX1_init 45 = .ok (.putfield 24, 3) := by decide +kernel
theorem dX1_init_48 : decode cX1_init 48 = .ok (.aload_n 0, 1) := by decide +kernel
theorem dX1_init_49 : decode cX1_init 49 = .ok (.bipush 40, 2) := by decide +kernel
theorem dX1_init_51 : decode cX1_init 51 = .ok (.newarray .long, 2) := by decide +kernel
theorem dX1_init_53 : decode cX1_init 53 = .ok (.putfield 27, 3) := by decide +kernel
theorem dX1_init_56 : decode cX1_init 56 = .ok (.aload_n 0, 1) := by decide +kernel
theorem dX1_init_57 : decode cX1_init 57 = .ok (.bipush 40, 2) := by decide +kernel
theorem dX1_init_59 : decode cX1_init 59 = .ok (.newarray .int, 2) := by decide +kernel
theorem dX1_init_61 : decode cX1_init 61 = .ok (.putfield 30, 3) := by decide +kernel
theorem dX1_init_64 : decode cX1_init 64 = .ok (.aload_n 0, 1) := by decide +kernel
theorem dX1_init_65 : decode cX1_init 65 = .ok (.sipush 2480, 3) := by decide +kernel
theorem dX1_init_68 : decode cX1_init 68 = .ok (.newarray .int, 2) := by decide +kernel
theorem dX1_init_70 : decode cX1_init 70 = .ok (.putfield 33, 3) := by decide +kernel
theorem dX1_init_73 : decode cX1_init 73 = .ok (.aload_n 0, 1) := by decide +kernel
theorem dX1_init_74 : decode cX1_init 74 = .ok (.bipush 61, 2) := by decide +kernel
theorem dX1_init_76 : decode cX1_init 76 = .ok (.newarray .long, 2) := by decide +kernel
theorem dX1_init_78 : decode cX1_init 78 = .ok (.putfield 36, 3) := by decide +kernel
theorem dX1_init_81 : decode cX1_init 81 = .ok (.aload_n 0, 1) := by decide +kernel
theorem dX1_init_82 : decode cX1_init 82 = .ok (.bipush 61, 2) := by decide +kernel
theorem dX1_init_84 : decode cX1_init 84 = .ok (.newarray .long, 2) := by decide +kernel
theorem dX1_init_86 : decode cX1_init 86 = .ok (.putfield 39, 3) := by decide +kernel
theorem dX1_init_89 : decode cX1_init 89 = .ok (.aload_n 0, 1) := by decide +kernel
theorem dX1_init_90 : decode cX1_init 90 = .ok (.sipush 3721, 3) := by decide +kernel
theorem dX1_init_93 : decode cX1_init 93 = .ok (.newarray .long, 2) := by decide +kernel
theorem dX1_init_95 : decode cX1_init 95 = .ok (.putfield 42, 3) := by decide +kernel
theorem dX1_init_98 : decode cX1_init 98 = .ok (.aload_n 0, 1) := by decide +kernel
theorem dX1_init_99 : decode cX1_init 99 = .ok (.bipush 61, 2) := by decide +kernel
theorem dX1_init_101 : decode cX1_init 101 = .ok (.newarray .boolean, 2) := by decide +kernel
theorem dX1_init_103 : decode cX1_init 103 = .ok (.putfield 45, 3) := by decide +kernel
theorem dX1_init_106 : decode cX1_init 106 = .ok (.aload_n 0, 1) := by decide +kernel
theorem dX1_init_107 : decode cX1_init 107 = .ok (.iload_n 1, 1) := by decide +kernel
theorem dX1_init_108 : decode cX1_init 108 = .ok (.iconst 1, 1) := by decide +kernel
theorem dX1_init_109 : decode cX1_init 109 = .ok (.if_icmp .ge 7, 3) := by decide +kernel
theorem dX1_init_112 : decode cX1_init 112 = .ok (.iconst 1, 1) := by decide +kernel
theorem dX1_init_113 : decode cX1_init 113 = .ok (.goto 15, 3) := by decide +kernel
theorem dX1_init_116 : decode cX1_init 116 = .ok (.iload_n 1, 1) := by decide +kernel
theorem dX1_init_117 : decode cX1_init 117 = .ok (.bipush 60, 2) := by decide +kernel
theorem dX1_init_119 : decode cX1_init 119 = .ok (.if_icmp .le 8, 3) := by decide +kernel
theorem dX1_init_122 : decode cX1_init 122 = .ok (.bipush 60, 2) := by decide +kernel
theorem dX1_init_124 : decode cX1_init 124 = .ok (.goto 4, 3) := by decide +kernel
theorem dX1_init_127 : decode cX1_init 127 = .ok (.iload_n 1, 1) := by decide +kernel
theorem dX1_init_128 : decode cX1_init 128 = .ok (.putfield 48, 3) := by decide +kernel
theorem dX1_init_131 : decode cX1_init 131 = .ok (.aload_n 0, 1) := by decide +kernel
theorem dX1_init_132 : decode cX1_init 132 = .ok (.iload_n 2, 1) := by decide +kernel
theorem dX1_init_133 : decode cX1_init 133 = .ok (.iconst 1, 1) := by decide +kernel
theorem dX1_init_134 : decode cX1_init 134 = .ok (.if_icmp .ge 7, 3) := by decide +kernel
theorem dX1_init_137 : decode cX1_init 137 = .ok (.iconst 1, 1) := by decide +kernel
theorem dX1_init_138 : decode cX1_init 138 = .ok (.goto 15, 3) := by decide +kernel
theorem dX1_init_141 : decode cX1_init 141 = .ok (.iload_n 2, 1) := by decide +kernel
theorem dX1_init_142 : decode cX1_init 142 = .ok (.bipush 40, 2) := by decide +kernel
theorem dX1_init_144 : decode cX1_init 144 = .ok (.if_icmp .le 8, 3) := by decide +kernel
theorem dX1_init_147 : decode cX1_init 147 = .ok (.bipush 40, 2) := by decide +kernel
theorem dX1_init_149 : decode cX1_init 149 = .ok (.goto 4, 3) := by decide +kernel
theorem dX1_init_152 : decode cX1_init 152 = .ok (.iload_n 2, 1) := by decide +kernel
theorem dX1_init_153 : decode cX1_init 153 = .ok (.putfield 52, 3) := by decide +kernel
theorem dX1_init_156 : decode cX1_init 156 = .ok (.return_, 1) := by decide +kernel
theorem dX1_thrown_0 : decode cX1_thrown 0 = .ok (.aload_n 0, 1) := by decide +kernel
theorem dX1_thrown_1 : decode cX1_thrown 1 = .ok (.getfield 55, 3) := by decide +kernel
theorem dX1_thrown_4 : decode cX1_thrown 4 = .ok (.ireturn, 1) := by decide +kernel
theorem dX1_column_0 : decode cX1_column 0 = .ok (.aload_n 0, 1) := by decide +kernel
theorem dX1_column_1 : decode cX1_column 1 = .ok (.iload_n 1, 1) := by decide +kernel
theorem dX1_column_2 : decode cX1_column 2 = .ok (.ifCond .lt 23, 3) := by decide +kernel
theorem dX1_column_5 : decode cX1_column 5 = .ok (.iload_n 1, 1) := by decide +kernel
theorem dX1_column_6 : decode cX1_column 6 = .ok (.aload_n 0, 1) := by decide +kernel
theorem dX1_column_7 : decode cX1_column 7 = .ok (.getfield 48, 3) := by decide +kernel
theorem dX1_column_10 : decode cX1_column 10 = .ok (.if_icmp .ge 15, 3) := by decide +kernel
theorem dX1_column_13 : decode cX1_column 13 = .ok (.iload_n 2, 1) := by decide +kernel
theorem dX1_column_14 : decode cX1_column 14 = .ok (.ifCond .lt 11, 3) := by decide +kernel
theorem dX1_column_17 : decode cX1_column 17 = .ok (.iload_n 2, 1) := by decide +kernel
theorem dX1_column_18 : decode cX1_column 18 = .ok (.aload_n 0, 1) := by decide +kernel
theorem dX1_column_19 : decode cX1_column 19 = .ok (.getfield 52, 3) := by decide +kernel
theorem dX1_column_22 : decode cX1_column 22 = .ok (.if_icmp .lt 7, 3) := by decide +kernel
theorem dX1_column_25 : decode cX1_column 25 = .ok (.iconst 1, 1) := by decide +kernel
theorem dX1_column_26 : decode cX1_column 26 = .ok (.goto 4, 3) := by decide +kernel
theorem dX1_column_29 : decode cX1_column 29 = .ok (.iconst 0, 1) := by decide +kernel
theorem dX1_column_30 : decode cX1_column 30 = .ok (.putfield 55, 3) := by decide +kernel
theorem dX1_column_33 : decode cX1_column 33 = .ok (.aload_n 0, 1) := by decide +kernel
theorem dX1_column_34 : decode cX1_column 34 = .ok (.getfield 55, 3) := by decide +kernel
theorem dX1_column_37 : decode cX1_column 37 = .ok (.ifCond .ne 15, 3) := by decide +kernel
theorem dX1_column_40 : decode cX1_column 40 = .ok (.aload_n 0, 1) := by decide +kernel
theorem dX1_column_41 : decode cX1_column 41 = .ok (.getfield 7, 3) := by decide +kernel
theorem dX1_column_44 : decode cX1_column 44 = .ok (.bipush 60, 2) := by decide +kernel
theorem dX1_column_46 : decode cX1_column 46 = .ok (.iload_n 2, 1) := by decide +kernel
theorem dX1_column_47 : decode cX1_column 47 = .ok (.imul, 1) := by decide +kernel
theorem dX1_column_48 : decode cX1_column 48 = .ok (.iload_n 1, 1) := by decide +kernel
theorem dX1_column_49 : decode cX1_column 49 = .ok (.iadd, 1) := by decide +kernel
theorem dX1_column_50 : decode cX1_column 50 = .ok (.iload_n 3, 1) := by decide +kernel
theorem dX1_column_51 : decode cX1_column 51 = .ok (.bastore, 1) := by decide +kernel
theorem dX1_column_52 : decode cX1_column 52 = .ok (.return_, 1) := by decide +kernel
theorem dX1_isDark_0 : decode cX1_isDark 0 = .ok (.aload_n 0, 1) := by decide +kernel
theorem dX1_isDark_1 : decode cX1_isDark 1 = .ok (.getfield 7, 3) := by decide +kernel
theorem dX1_isDark_4 : decode cX1_isDark 4 = .ok (.bipush 60, 2) := by decide +kernel
theorem dX1_isDark_6 : decode cX1_isDark 6 = .ok (.iload_n 2, 1) := by decide +kernel
theorem dX1_isDark_7 : decode cX1_isDark 7 = .ok (.imul, 1) := by decide +kernel
theorem dX1_isDark_8 : decode cX1_isDark 8 = .ok (.iload_n 1, 1) := by decide +kernel
theorem dX1_isDark_9 : decode cX1_isDark 9 = .ok (.iadd, 1) := by decide +kernel
theorem dX1_isDark_10 : decode cX1_isDark 10 = .ok (.baload, 1) := by decide +kernel
theorem dX1_isDark_11 : decode cX1_isDark 11 = .ok (.ireturn, 1) := by decide +kernel
set_option maxRecDepth 20000 in
theorem ggX1_hasDark_X1_isDark : GoodIn wsX1_hasDark wsX1_isDark := goodIn_r _ [7, 8, 9, 10, 11, 12, 13, 14, 15, 16, 17, 18, 19, 20, 21, 22, 23, 24, 25] (by decide +kernel) (by decide +kernel)
set_option maxRecDepth 20000 in
theorem gX1_hasDark_X1_isDark : GoodIn wsX1_hasDark (wsV RX1 58 RX1 yX1_isDark wsX1_isDark) := goodIn_app (goodIn_of _ (by decide +kernel)) ggX1_hasDark_X1_isDark
theorem dX1_hasDark_0 : decode cX1_hasDark 0 = .ok (.iconst 0, 1) := by decide +kernel
theorem dX1_hasDark_1 : decode cX1_hasDark 1 = .ok (.istore_n 2, 1) := by decide +kernel
theorem dX1_hasDark_2 : decode cX1_hasDark 2 = .ok (.iconst 0, 1) := by decide +kernel
theorem dX1_hasDark_3 : decode cX1_hasDark 3 = .ok (.istore_n 3, 1) := by decide +kernel
theorem dX1_hasDark_4 : decode cX1_hasDark 4 = .ok (.iload_n 3, 1) := by decide +kernel
theorem dX1_hasDark_5 : decode cX1_hasDark 5 = .ok (.aload_n 0, 1) := by decide +kernel
theorem dX1_hasDark_6 : decode cX1_hasDark 6 = .ok (.getfield 52, 3) := by decide +kernel
theorem dX1_hasDark_9 : decode cX1_hasDark 9 = .ok (.if_icmp .ge 40, 3) := by decide +kernel
theorem dX1_hasDark_12 : decode cX1_hasDark 12 = .ok (.iload_n 1, 1) := by decide +kernel
theorem dX1_hasDark_13 : decode cX1_hasDark 13 = .ok (.ifCond .lt 36, 3) := by decide +kernel
theorem dX1_hasDark_16 : decode cX1_hasDark 16 = .ok (.iload_n 1, 1) := by decide +kernel
theorem dX1_hasDark_17 : decode cX1_hasDark 17 = .ok (.aload_n 0, 1) := by decide +kernel
theorem dX1_hasDark_18 : decode cX1_hasDark 18 = .ok (.getfield 48, 3) := by decide +kernel
theorem dX1_hasDark_21 : decode cX1_hasDark 21 = .ok (.if_icmp .ge 28, 3) := by decide +kernel
theorem dX1_hasDark_24 : decode cX1_hasDark 24 = .ok (.iload_n 2, 1) := by decide +kernel
theorem dX1_hasDark_25 : decode cX1_hasDark 25 = .ok (.ifCond .ne 12, 3) := by decide +kernel
theorem dX1_hasDark_28 : decode cX1_hasDark 28 = .ok (.aload_n 0, 1) := by decide +kernel
theorem dX1_hasDark_29 : decode cX1_hasDark 29 = .ok (.iload_n 1, 1) := by decide +kernel
theorem dX1_hasDark_30 : decode cX1_hasDark 30 = .ok (.iload_n 3, 1) := by decide +kernel
theorem dX1_hasDark_31 : decode cX1_hasDark 31 = .ok (.invokevirtual 58, 3) := by decide +kernel
theorem dX1_hasDark_34 : decode cX1_hasDark 34 = .ok (.ifCond .eq 7, 3) := by decide +kernel
theorem dX1_hasDark_37 : decode cX1_hasDark 37 = .ok (.iconst 1, 1) := by decide +kernel
theorem dX1_hasDark_38 : decode cX1_hasDark 38 = .ok (.goto 4, 3) := by decide +kernel
theorem dX1_hasDark_41 : decode cX1_hasDark 41 = .ok (.iconst 0, 1) := by decide +kernel
theorem dX1_hasDark_42 : decode cX1_hasDark 42 = .ok (.istore_n 2, 1) := by decide +kernel
theorem dX1_hasDark_43 : decode cX1_hasDark 43 = .ok (.iinc 3 1, 3) := by decide +kernel
theorem dX1_hasDark_46 : decode cX1_hasDark 46 = .ok (.goto (-42), 3) := by decide +kernel
theorem dX1_hasDark_49 : decode cX1_hasDark 49 = .ok (.iload_n 2, 1) := by decide +kernel
theorem dX1_hasDark_50 : decode cX1_hasDark 50 = .ok (.ireturn, 1) := by decide +kernel
set_option maxRecDepth 20000 in
theorem ggX1_inRow_X1_isDark : GoodIn wsX1_inRow wsX1_isDark := goodIn_r _ [6, 7, 8, 9, 10, 11, 12, 13, 14, 15, 16, 17, 18, 19, 20, 21, 22, 23, 24] (by decide +kernel) (by decide +kernel)
set_option maxRecDepth 20000 in
theorem gX1_inRow_X1_isDark : GoodIn wsX1_inRow (wsV RX1 58 RX1 yX1_isDark wsX1_isDark) := goodIn_app (goodIn_of _ (by decide +kernel)) ggX1_inRow_X1_isDark
theorem dX1_inRow_0 : decode cX1_inRow 0 = .ok (.iconst 0, 1) := by decide +kernel
theorem dX1_inRow_1 : decode cX1_inRow 1 = .ok (.istore_n 2, 1) := by decide +kernel
theorem dX1_inRow_2 : decode cX1_inRow 2 = .ok (.iconst 0, 1) := by decide +kernel
theorem dX1_inRow_3 : decode cX1_inRow 3 = .ok (.istore_n 3, 1) := by decide +kernel
theorem dX1_inRow_4 : decode cX1_inRow 4 = .ok (.iload_n 3, 1) := by decide +kernel
theorem dX1_inRow_5 : decode cX1_inRow 5 = .ok (.aload_n 0, 1) := by decide +kernel
theorem dX1_inRow_6 : decode cX1_inRow 6 = .ok (.getfield 48, 3) := by decide +kernel
theorem dX1_inRow_9 : decode cX1_inRow 9 = .ok (.if_icmp .ge 26, 3) := by decide +kernel
theorem dX1_inRow_12 : decode cX1_inRow 12 = .ok (.aload_n 0, 1) := by decide +kernel
theorem dX1_inRow_13 : decode cX1_inRow 13 = .ok (.iload_n 3, 1) := by decide +kernel
theorem dX1_inRow_14 : decode cX1_inRow 14 = .ok (.iload_n 1, 1) := by decide +kernel
theorem dX1_inRow_15 : decode cX1_inRow 15 = .ok (.invokevirtual 58, 3) := by decide +kernel
theorem dX1_inRow_18 : decode cX1_inRow 18 = .ok (.ifCond .eq 9, 3) := by decide +kernel
theorem dX1_inRow_21 : decode cX1_inRow 21 = .ok (.iload_n 2, 1) := by decide +kernel
theorem dX1_inRow_22 : decode cX1_inRow 22 = .ok (.iconst 1, 1) := by decide +kernel
theorem dX1_inRow_23 : decode cX1_inRow 23 = .ok (.iadd, 1) := by decide +kernel
theorem dX1_inRow_24 : decode cX1_inRow 24 = .ok (.goto 4, 3) := by decide +kernel
theorem dX1_inRow_27 : decode cX1_inRow 27 = .ok (.iload_n 2, 1) := by decide +kernel
theorem dX1_inRow_28 : decode cX1_inRow 28 = .ok (.istore_n 2, 1) := by decide +kernel
theorem dX1_inRow_29 : decode cX1_inRow 29 = .ok (.iinc 3 1, 3) := by decide +kernel
theorem dX1_inRow_32 : decode cX1_inRow 32 = .ok (.goto (-28), 3) := by decide +kernel
theorem dX1_inRow_35 : decode cX1_inRow 35 = .ok (.iload_n 2, 1) := by decide +kernel
theorem dX1_inRow_36 : decode cX1_inRow 36 = .ok (.ireturn, 1) := by decide +kernel
set_option maxRecDepth 20000 in
theorem ggX1_mostInRow_X1_inRow : GoodIn wsX1_mostInRow wsX1_inRow := goodIn_r _ [6, 7, 8, 9, 10, 5, 11, 12, 13, 14, 15, 16, 17, 18, 19, 20, 21, 22, 23, 24, 25, 26, 27, 28, 29] (by decide +kernel) (by decide +kernel)
set_option maxRecDepth 20000 in
theorem gX1_mostInRow_X1_inRow : GoodIn wsX1_mostInRow (wsV RX1 62 RX1 yX1_inRow wsX1_inRow) := goodIn_app (goodIn_of _ (by decide +kernel)) ggX1_mostInRow_X1_inRow
theorem dX1_mostInRow_0 : decode cX1_mostInRow 0 = .ok (.iconst 0, 1) := by decide +kernel
theorem dX1_mostInRow_1 : decode cX1_mostInRow 1 = .ok (.istore_n 1, 1) := by decide +kernel
theorem dX1_mostInRow_2 : decode cX1_mostInRow 2 = .ok (.iconst 0, 1) := by decide +kernel
theorem dX1_mostInRow_3 : decode cX1_mostInRow 3 = .ok (.istore_n 2, 1) := by decide +kernel
theorem dX1_mostInRow_4 : decode cX1_mostInRow 4 = .ok (.iload_n 2, 1) := by decide +kernel
theorem dX1_mostInRow_5 : decode cX1_mostInRow 5 = .ok (.aload_n 0, 1) := by decide +kernel
theorem dX1_mostInRow_6 : decode cX1_mostInRow 6 = .ok (.getfield 52, 3) := by decide +kernel
theorem dX1_mostInRow_9 : decode cX1_mostInRow 9 = .ok (.if_icmp .ge 28, 3) := by decide +kernel
theorem dX1_mostInRow_12 : decode cX1_mostInRow 12 = .ok (.aload_n 0, 1) := by decide +kernel
theorem dX1_mostInRow_13 : decode cX1_mostInRow 13 = .ok (.iload_n 2, 1) := by decide +kernel
theorem dX1_mostInRow_14 : decode cX1_mostInRow 14 = .ok (.invokevirtual 62, 3) := by decide +kernel
theorem dX1_mostInRow_17 : decode cX1_mostInRow 17 = .ok (.iload_n 1, 1) := by decide +kernel
theorem dX1_mostInRow_18 : decode cX1_mostInRow 18 = .ok (.if_icmp .le 11, 3) := by decide +kernel
theorem dX1_mostInRow_21 : decode cX1_mostInRow 21 = .ok (.aload_n 0, 1) := by decide +kernel
theorem dX1_mostInRow_22 : decode cX1_mostInRow 22 = .ok (.iload_n 2, 1) := by decide +kernel
theorem dX1_mostInRow_23 : decode cX1_mostInRow 23 = .ok (.invokevirtual 62, 3) := by decide +kernel
theorem dX1_mostInRow_26 : decode cX1_mostInRow 26 = .ok (.goto 4, 3) := by decide +kernel
theorem dX1_mostInRow_29 : decode cX1_mostInRow 29 = .ok (.iload_n 1, 1) := by decide +kernel
theorem dX1_mostInRow_30 : decode cX1_mostInRow 30 = .ok (.istore_n 1, 1) := by decide +kernel
theorem dX1_mostInRow_31 : decode cX1_mostInRow 31 = .ok (.iinc 2 1, 3) := by decide +kernel
theorem dX1_mostInRow_34 : decode cX1_mostInRow 34 = .ok (.goto (-30), 3) := by decide +kernel
theorem dX1_mostInRow_37 : decode cX1_mostInRow 37 = .ok (.iload_n 1, 1) := by decide +kernel
theorem dX1_mostInRow_38 : decode cX1_mostInRow 38 = .ok (.ireturn, 1) := by decide +kernel
set_option maxRecDepth 20000 in
theorem ggX1_middle_X1_mostInRow : GoodIn wsX1_middle wsX1_mostInRow := goodIn_r _ [5, 6, 7, 8, 9, 4, 10, 11, 12, 13, 14, 15, 16, 17, 18, 19, 20, 21, 22, 23, 24, 25, 26, 27, 28, 29, 30, 31, 32, 33] (by decide +kernel) (by decide +kernel)
set_option maxRecDepth 20000 in
theorem gX1_middle_X1_mostInRow : GoodIn wsX1_middle (wsV RX1 66 RX1 yX1_mostInRow wsX1_mostInRow) := goodIn_app (goodIn_of _ (by decide +kernel)) ggX1_middle_X1_mostInRow
set_option maxRecDepth 20000 in
theorem ggX1_middle_X1_inRow : GoodIn wsX1_middle wsX1_inRow := goodIn_r _ [10, 11, 12, 13, 14, 4, 15, 16, 17, 18, 19, 20, 21, 22, 23, 24, 25, 26, 27, 28, 29, 30, 31, 32, 33] (by decide +kernel) (by decide +kernel)
set_option maxRecDepth 20000 in
theorem gX1_middle_X1_inRow : GoodIn wsX1_middle (wsV RX1 62 RX1 yX1_inRow wsX1_inRow) := goodIn_app (goodIn_of _ (by decide +kernel)) ggX1_middle_X1_inRow
theorem dX1_middle_0 : decode cX1_middle 0 = .ok (.aload_n 0, 1) := by decide +kernel
theorem dX1_middle_1 : decode cX1_middle 1 = .ok (.invokevirtual 66, 3) := by decide +kernel
theorem dX1_middle_4 : decode cX1_middle 4 = .ok (.istore_n 1, 1) := by decide +kernel
theorem dX1_middle_5 : decode cX1_middle 5 = .ok (.iconst 0, 1) := by decide +kernel
theorem dX1_middle_6 : decode cX1_middle 6 = .ok (.istore_n 2, 1) := by decide +kernel
theorem dX1_middle_7 : decode cX1_middle 7 = .ok (.iconst 2, 1) := by decide +kernel
theorem dX1_middle_8 : decode cX1_middle 8 = .ok (.aload_n 0, 1) := by decide +kernel
theorem dX1_middle_9 : decode cX1_middle 9 = .ok (.iload_n 2, 1) := by decide +kernel
theorem dX1_middle_10 : decode cX1_middle 10 = .ok (.invokevirtual 62, 3) := by decide +kernel
theorem dX1_middle_13 : decode cX1_middle 13 = .ok (.imul, 1) := by decide +kernel
theorem dX1_middle_14 : decode cX1_middle 14 = .ok (.iload_n 1, 1) := by decide +kernel
theorem dX1_middle_15 : decode cX1_middle 15 = .ok (.if_icmp .ge 9, 3) := by decide +kernel
theorem dX1_middle_18 : decode cX1_middle 18 = .ok (.iinc 2 1, 3) := by decide +kernel
theorem dX1_middle_21 : decode cX1_middle 21 = .ok (.goto (-14), 3) := by decide +kernel
theorem dX1_middle_24 : decode cX1_middle 24 = .ok (.iload_n 2, 1) := by decide +kernel
theorem dX1_middle_25 : decode cX1_middle 25 = .ok (.ireturn, 1) := by decide +kernel
set_option maxRecDepth 20000 in
theorem ggX1_baseline_X1_mostInRow : GoodIn wsX1_baseline wsX1_mostInRow := goodIn_r _ [6, 1, 7, 8, 9, 5, 10, 11, 12, 13, 14, 15, 16, 17, 18, 19, 20, 21, 22, 23, 24, 25, 26, 27, 28, 29, 30, 31, 32, 33] (by decide +kernel) (by decide +kernel)
set_option maxRecDepth 20000 in
theorem gX1_baseline_X1_mostInRow : GoodIn wsX1_baseline (wsV RX1 66 RX1 yX1_mostInRow wsX1_mostInRow) := goodIn_app (goodIn_of _ (by decide +kernel)) ggX1_baseline_X1_mostInRow
set_option maxRecDepth 20000 in
theorem ggX1_baseline_X1_inRow : GoodIn wsX1_baseline wsX1_inRow := goodIn_r _ [10, 11, 12, 13, 14, 5, 15, 16, 17, 18, 19, 20, 21, 22, 23, 24, 25, 26, 27, 28, 29, 30, 31, 32, 33] (by decide +kernel) (by decide +kernel)
set_option maxRecDepth 20000 in
theorem gX1_baseline_X1_inRow : GoodIn wsX1_baseline (wsV RX1 62 RX1 yX1_inRow wsX1_inRow) := goodIn_app (goodIn_of _ (by decide +kernel)) ggX1_baseline_X1_inRow
theorem dX1_baseline_0 : decode cX1_baseline 0 = .ok (.aload_n 0, 1) := by decide +kernel
theorem dX1_baseline_1 : decode cX1_baseline 1 = .ok (.invokevirtual 66, 3) := by decide +kernel
theorem dX1_baseline_4 : decode cX1_baseline 4 = .ok (.istore_n 1, 1) := by decide +kernel
theorem dX1_baseline_5 : decode cX1_baseline 5 = .ok (.aload_n 0, 1) := by decide +kernel
theorem dX1_baseline_6 : decode cX1_baseline 6 = .ok (.getfield 52, 3) := by decide +kernel
theorem dX1_baseline_9 : decode cX1_baseline 9 = .ok (.iconst 1, 1) := by decide +kernel
theorem dX1_baseline_10 : decode cX1_baseline 10 = .ok (.isub, 1) := by decide +kernel
theorem dX1_baseline_11 : decode cX1_baseline 11 = .ok (.istore_n 2, 1) := by decide +kernel
theorem dX1_baseline_12 : decode cX1_baseline 12 = .ok (.iconst 2, 1) := by decide +kernel
theorem dX1_baseline_13 : decode cX1_baseline 13 = .ok (.aload_n 0, 1) := by decide +kernel
theorem dX1_baseline_14 : decode cX1_baseline 14 = .ok (.iload_n 2, 1) := by decide +kernel
theorem dX1_baseline_15 : decode cX1_baseline 15 = .ok (.invokevirtual 62, 3) := by decide +kernel
theorem dX1_baseline_18 : decode cX1_baseline 18 = .ok (.imul, 1) := by decide +kernel
theorem dX1_baseline_19 : decode cX1_baseline 19 = .ok (.iload_n 1, 1) := by decide +kernel
theorem dX1_baseline_20 : decode cX1_baseline 20 = .ok (.if_icmp .ge 9, 3) := by decide +kernel
theorem dX1_baseline_23 : decode cX1_baseline 23 = .ok (.iinc 2 (-1), 3) := by decide +kernel
theorem dX1_baseline_26 : decode cX1_baseline 26 = .ok (.goto (-14), 3) := by decide +kernel
theorem dX1_baseline_29 : decode cX1_baseline 29 = .ok (.iload_n 2, 1) := by decide +kernel
theorem dX1_baseline_30 : decode cX1_baseline 30 = .ok (.ireturn, 1) := by decide +kernel
set_option maxRecDepth 20000 in
theorem ggX1_from_X1_hasDark : GoodIn wsX1_from wsX1_hasDark := goodIn_r _ [5, 6, 7, 8, 9, 10, 4, 11, 12, 13, 14, 15, 16, 17, 18, 19, 20, 21, 22, 23, 24, 25, 26, 27, 28, 29] (by decide +kernel) (by decide +kernel)
set_option maxRecDepth 20000 in
theorem gX1_from_X1_hasDark : GoodIn wsX1_from (wsV RX1 70 RX1 yX1_hasDark wsX1_hasDark) := goodIn_app (goodIn_of _ (by decide +kernel)) ggX1_from_X1_hasDark
theorem dX1_from_0 : decode cX1_from 0 = .ok (.iconst 0, 1) := by decide +kernel
theorem dX1_from_1 : decode cX1_from 1 = .ok (.istore_n 1, 1) := by decide +kernel
theorem dX1_from_2 : decode cX1_from 2 = .ok (.aload_n 0, 1) := by decide +kernel
theorem dX1_from_3 : decode cX1_from 3 = .ok (.iload_n 1, 1) := by decide +kernel
theorem dX1_from_4 : decode cX1_from 4 = .ok (.invokevirtual 70, 3) := by decide +kernel
theorem dX1_from_7 : decode cX1_from 7 = .ok (.ifCond .ne 9, 3) := by decide +kernel
theorem dX1_from_10 : decode cX1_from 10 = .ok (.iinc 1 1, 3) := by decide +kernel
theorem dX1_from_13 : decode cX1_from 13 = .ok (.goto (-11), 3) := by decide +kernel
theorem dX1_from_16 : decode cX1_from 16 = .ok (.iload_n 1, 1) := by decide +kernel
theorem dX1_from_17 : decode cX1_from 17 = .ok (.ireturn, 1) := by decide +kernel
set_option maxRecDepth 20000 in
theorem ggX1_until_X1_hasDark : GoodIn wsX1_until wsX1_hasDark := goodIn_r _ [6, 7, 1, 8, 9, 10, 5, 11, 12, 13, 14, 15, 16, 17, 18, 19, 20, 21, 22, 23, 24, 25, 26, 27, 28, 29] (by decide +kernel) (by decide +kernel)
set_option maxRecDepth 20000 in
theorem gX1_until_X1_hasDark : GoodIn wsX1_until (wsV RX1 70 RX1 yX1_hasDark wsX1_hasDark) := goodIn_app (goodIn_of _ (by decide +kernel)) ggX1_until_X1_hasDark
theorem dX1_until_0 : decode cX1_until 0 = .ok (.aload_n 0, 1) := by decide +kernel
theorem dX1_until_1 : decode cX1_until 1 = .ok (.getfield 48, 3) := by decide +kernel
theorem dX1_until_4 : decode cX1_until 4 = .ok (.istore_n 1, 1) := by decide +kernel
theorem dX1_until_5 : decode cX1_until 5 = .ok (.aload_n 0, 1) := by decide +kernel
theorem dX1_until_6 : decode cX1_until 6 = .ok (.iload_n 1, 1) := by decide +kernel
theorem dX1_until_7 : decode cX1_until 7 = .ok (.iconst 1, 1) := by decide +kernel
theorem dX1_until_8 : decode cX1_until 8 = .ok (.isub, 1) := by decide +kernel
theorem dX1_until_9 : decode cX1_until 9 = .ok (.invokevirtual 70, 3) := by decide +kernel
theorem dX1_until_12 : decode cX1_until 12 = .ok (.ifCond .ne 9, 3) := by decide +kernel
theorem dX1_until_15 : decode cX1_until 15 = .ok (.iinc 1 (-1), 3) := by decide +kernel
theorem dX1_until_18 : decode cX1_until 18 = .ok (.goto (-13), 3) := by decide +kernel
theorem dX1_until_21 : decode cX1_until 21 = .ok (.iload_n 1, 1) := by decide +kernel
theorem dX1_until_22 : decode cX1_until 22 = .ok (.ireturn, 1) := by decide +kernel
set_option maxRecDepth 20000 in
theorem ggX1_due_X1_baseline : GoodIn wsX1_due wsX1_baseline := goodIn_r _ [5, 6, 7, 8, 9, 4, 10, 11, 12, 13, 14, 15, 16, 17, 18, 19, 20, 25, 26, 27, 28, 29, 30, 31, 32, 33, 34, 35, 36, 37, 38, 39, 40, 41] (by decide +kernel) (by decide +kernel)
set_option maxRecDepth 20000 in
theorem gX1_due_X1_baseline : GoodIn wsX1_due (wsV RX1 74 RX1 yX1_baseline wsX1_baseline) := goodIn_app (goodIn_of _ (by decide +kernel)) ggX1_due_X1_baseline
set_option maxRecDepth 20000 in
theorem ggX1_due_X1_middle : GoodIn wsX1_due wsX1_middle := goodIn_r _ [24, 7, 8, 9, 4, 10, 6, 11, 12, 13, 14, 15, 16, 17, 18, 19, 20, 25, 26, 27, 28, 29, 30, 31, 32, 33, 34, 35, 36, 37, 38, 39, 40, 41] (by decide +kernel) (by decide +kernel)
set_option maxRecDepth 20000 in
theorem gX1_due_X1_middle : GoodIn wsX1_due (wsV RX1 77 RX1 yX1_middle wsX1_middle) := goodIn_app (goodIn_of _ (by decide +kernel)) ggX1_due_X1_middle
theorem dX1_due_0 : decode cX1_due 0 = .ok (.iconst 3, 1) := by decide +kernel
theorem dX1_due_1 : decode cX1_due 1 = .ok (.aload_n 0, 1) := by decide +kernel
theorem dX1_due_2 : decode cX1_due 2 = .ok (.invokevirtual 74, 3) := by decide +kernel
theorem dX1_due_5 : decode cX1_due 5 = .ok (.aload_n 0, 1) := by decide +kernel
theorem dX1_due_6 : decode cX1_due 6 = .ok (.invokevirtual 77, 3) := by decide +kernel
theorem dX1_due_9 : decode cX1_due 9 = .ok (.isub, 1) := by decide +kernel
theorem dX1_due_10 : decode cX1_due 10 = .ok (.imul, 1) := by decide +kernel
theorem dX1_due_11 : decode cX1_due 11 = .ok (.iconst 4, 1) := by decide +kernel
theorem dX1_due_12 : decode cX1_due 12 = .ok (.idiv, 1) := by decide +kernel
theorem dX1_due_13 : decode cX1_due 13 = .ok (.iconst 2, 1) := by decide +kernel
theorem dX1_due_14 : decode cX1_due 14 = .ok (.iadd, 1) := by decide +kernel
theorem dX1_due_15 : decode cX1_due 15 = .ok (.ireturn, 1) := by decide +kernel
set_option maxRecDepth 20000 in
theorem ggX1_touch_X1_isDark : GoodIn wsX1_touch wsX1_isDark := goodIn_r _ [6, 7, 8, 9, 10, 11, 12, 13, 14, 15, 16, 17, 18, 19, 20, 21, 22, 23, 24] (by decide +kernel) (by decide +kernel)
set_option maxRecDepth 20000 in
theorem gX1_touch_X1_isDark : GoodIn wsX1_touch (wsV RX1 58 RX1 yX1_isDark wsX1_isDark) := goodIn_app (goodIn_of _ (by decide +kernel)) ggX1_touch_X1_isDark
theorem dX1_touch_0 : decode cX1_touch 0 = .ok (.iconst 0, 1) := by decide +kernel
theorem dX1_touch_1 : decode cX1_touch 1 = .ok (.istore_n 2, 1) := by decide +kernel
theorem dX1_touch_2 : decode cX1_touch 2 = .ok (.iconst 0, 1) := by decide +kernel
theorem dX1_touch_3 : decode cX1_touch 3 = .ok (.istore_n 3, 1) := by decide +kernel
theorem dX1_touch_4 : decode cX1_touch 4 = .ok (.iload_n 3, 1) := by decide +kernel
theorem dX1_touch_5 : decode cX1_touch 5 = .ok (.aload_n 0, 1) := by decide +kernel
theorem dX1_touch_6 : decode cX1_touch 6 = .ok (.getfield 52, 3) := by decide +kernel
theorem dX1_touch_9 : decode cX1_touch 9 = .ok (.if_icmp .ge 37, 3) := by decide +kernel
theorem dX1_touch_12 : decode cX1_touch 12 = .ok (.aload_n 0, 1) := by decide +kernel
theorem dX1_touch_13 : decode cX1_touch 13 = .ok (.iload_n 1, 1) := by decide +kernel
theorem dX1_touch_14 : decode cX1_touch 14 = .ok (.iconst 1, 1) := by decide +kernel
theorem dX1_touch_15 : decode cX1_touch 15 = .ok (.isub, 1) := by decide +kernel
theorem dX1_touch_16 : decode cX1_touch 16 = .ok (.iload_n 3, 1) := by decide +kernel
theorem dX1_touch_17 : decode cX1_touch 17 = .ok (.invokevirtual 58, 3) := by decide +kernel
theorem dX1_touch_20 : decode cX1_touch 20 = .ok (.ifCond .eq 18, 3) := by decide +kernel
theorem dX1_touch_23 : decode cX1_touch 23 = .ok (.aload_n 0, 1) := by decide +kernel
theorem dX1_touch_24 : decode cX1_touch 24 = .ok (.iload_n 1, 1) := by decide +kernel
theorem dX1_touch_25 : decode cX1_touch 25 = .ok (.iload_n 3, 1) := by decide +kernel
theorem dX1_touch_26 : decode cX1_touch 26 = .ok (.invokevirtual 58, 3) := by decide +kernel
theorem dX1_touch_29 : decode cX1_touch 29 = .ok (.ifCond .eq 9, 3) := by decide +kernel
theorem dX1_touch_32 : decode cX1_touch 32 = .ok (.iload_n 2, 1) := by decide +kernel
theorem dX1_touch_33 : decode cX1_touch 33 = .ok (.iconst 1, 1) := by decide +kernel
theorem dX1_touch_34 : decode cX1_touch 34 = .ok (.iadd, 1) := by decide +kernel
theorem dX1_touch_35 : decode cX1_touch 35 = .ok (.goto 4, 3) := by decide +kernel
theorem dX1_touch_38 : decode cX1_touch 38 = .ok (.iload_n 2, 1) := by decide +kernel
theorem dX1_touch_39 : decode cX1_touch 39 = .ok (.istore_n 2, 1) := by decide +kernel
theorem dX1_touch_40 : decode cX1_touch 40 = .ok (.iinc 3 1, 3) := by decide +kernel
theorem dX1_touch_43 : decode cX1_touch 43 = .ok (.goto (-39), 3) := by decide +kernel
theorem dX1_touch_46 : decode cX1_touch 46 = .ok (.iload_n 2, 1) := by decide +kernel
theorem dX1_touch_47 : decode cX1_touch 47 = .ok (.ireturn, 1) := by decide +kernel
set_option maxRecDepth 20000 in
theorem ggX1_mayCut_X1_touch : GoodIn wsX1_mayCut wsX1_touch := goodIn_r _ [5, 6, 7, 8, 9, 4, 10, 11, 17, 18, 19, 20, 21, 22, 23, 24, 25, 26, 27, 28, 29, 30, 31, 32, 33] (by decide +kernel) (by decide +kernel)
set_option maxRecDepth 20000 in
theorem gX1_mayCut_X1_touch : GoodIn wsX1_mayCut (wsV RX1 80 RX1 yX1_touch wsX1_touch) := goodIn_app (goodIn_of _ (by decide +kernel)) ggX1_mayCut_X1_touch
set_option maxRecDepth 20000 in
theorem ggX1_mayCut_X1_hasDark : GoodIn wsX1_mayCut wsX1_hasDark := goodIn_r _ [15, 6, 16, 7, 8, 9, 4, 10, 11, 17, 18, 19, 20, 21, 22, 23, 24, 25, 26, 27, 28, 29, 30, 31, 32, 33] (by decide +kernel) (by decide +kernel)
set_option maxRecDepth 20000 in
theorem gX1_mayCut_X1_hasDark : GoodIn wsX1_mayCut (wsV RX1 70 RX1 yX1_hasDark wsX1_hasDark) := goodIn_app (goodIn_of _ (by decide +kernel)) ggX1_mayCut_X1_hasDark
theorem dX1_mayCut_0 : decode cX1_mayCut 0 = .ok (.aload_n 0, 1) := by decide +kernel
theorem dX1_mayCut_1 : decode cX1_mayCut 1 = .ok (.iload_n 1, 1) := by decide +kernel
theorem dX1_mayCut_2 : decode cX1_mayCut 2 = .ok (.invokevirtual 80, 3) := by decide +kernel
theorem dX1_mayCut_5 : decode cX1_mayCut 5 = .ok (.iconst 3, 1) := by decide +kernel
theorem dX1_mayCut_6 : decode cX1_mayCut 6 = .ok (.if_icmp .ge 25, 3) := by decide +kernel
theorem dX1_mayCut_9 : decode cX1_mayCut 9 = .ok (.aload_n 0, 1) := by decide +kernel
theorem dX1_mayCut_10 : decode cX1_mayCut 10 = .ok (.iload_n 1, 1) := by decide +kernel
theorem dX1_mayCut_11 : decode cX1_mayCut 11 = .ok (.iconst 1, 1) := by decide +kernel
theorem dX1_mayCut_12 : decode cX1_mayCut 12 = .ok (.isub, 1) := by decide +kernel
theorem dX1_mayCut_13 : decode cX1_mayCut 13 = .ok (.invokevirtual 70, 3) := by decide +kernel
theorem dX1_mayCut_16 : decode cX1_mayCut 16 = .ok (.ifCond .ne 11, 3) := by decide +kernel
theorem dX1_mayCut_19 : decode cX1_mayCut 19 = .ok (.aload_n 0, 1) := by decide +kernel
theorem dX1_mayCut_20 : decode cX1_mayCut 20 = .ok (.iload_n 1, 1) := by decide +kernel
theorem dX1_mayCut_21 : decode cX1_mayCut 21 = .ok (.invokevirtual 70, 3) := by decide +kernel
theorem dX1_mayCut_24 : decode cX1_mayCut 24 = .ok (.ifCond .eq 7, 3) := by decide +kernel
theorem dX1_mayCut_27 : decode cX1_mayCut 27 = .ok (.iconst 1, 1) := by decide +kernel
theorem dX1_mayCut_28 : decode cX1_mayCut 28 = .ok (.goto 4, 3) := by decide +kernel
theorem dX1_mayCut_31 : decode cX1_mayCut 31 = .ok (.iconst 0, 1) := by decide +kernel
theorem dX1_mayCut_32 : decode cX1_mayCut 32 = .ok (.ireturn, 1) := by decide +kernel
set_option maxRecDepth 20000 in
theorem ggX1_sign_X1_hasDark : GoodIn wsX1_sign wsX1_hasDark := goodIn_r _ [10, 4, 11, 12, 13, 14, 9, 15, 16, 21, 22, 23, 24, 25, 26, 27, 28, 29, 30, 31, 32, 33, 34, 35, 36, 37] (by decide +kernel) (by decide +kernel)
set_option maxRecDepth 20000 in
theorem gX1_sign_X1_hasDark : GoodIn wsX1_sign (wsV RX1 70 RX1 yX1_hasDark wsX1_hasDark) := goodIn_app (goodIn_of _ (by decide +kernel)) ggX1_sign_X1_hasDark
set_option maxRecDepth 20000 in
theorem ggX1_sign_X1_isBroken : GoodIn wsX1_sign wsX1_isBroken := goodIn_r _ [20, 12, 13, 14, 9, 15, 16, 21, 22, 23, 24, 25, 26, 27, 28, 29, 30, 31, 32, 33, 34, 35, 36, 37] (by decide +kernel) (by decide +kernel)
set_option maxRecDepth 20000 in
theorem gX1_sign_X1_isBroken : GoodIn wsX1_sign (wsV RX1 90 RX1 yX1_isBroken wsX1_isBroken) := goodIn_app (goodIn_of _ (by decide +kernel)) ggX1_sign_X1_isBroken
theorem dX1_sign_0 : decode cX1_sign 0 = .ok (.iload_n 1, 1) := by decide +kernel
theorem dX1_sign_1 : decode cX1_sign 1 = .ok (.istore_n 3, 1) := by decide +kernel
theorem dX1_sign_2 : decode cX1_sign 2 = .ok (.iload_n 3, 1) := by decide +kernel
theorem dX1_sign_3 : decode cX1_sign 3 = .ok (.iload_n 2, 1) := by decide +kernel
theorem dX1_sign_4 : decode cX1_sign 4 = .ok (.if_icmp .ge 17, 3) := by decide +kernel
theorem dX1_sign_7 : decode cX1_sign 7 = .ok (.aload_n 0, 1) := by decide +kernel
theorem dX1_sign_8 : decode cX1_sign 8 = .ok (.iload_n 3, 1) := by decide +kernel
theorem dX1_sign_9 : decode cX1_sign 9 = .ok (.invokevirtual 70, 3) := by decide +kernel
theorem dX1_sign_12 : decode cX1_sign 12 = .ok (.ifCond .ne 9, 3) := by decide +kernel
theorem dX1_sign_15 : decode cX1_sign 15 = .ok (.iinc 3 1, 3) := by decide +kernel
theorem dX1_sign_18 : decode cX1_sign 18 = .ok (.goto (-16), 3) := by decide +kernel
theorem dX1_sign_21 : decode cX1_sign 21 = .ok (.iload_n 3, 1) := by decide +kernel
theorem dX1_sign_22 : decode cX1_sign 22 = .ok (.iload_n 2, 1) := by decide +kernel
theorem dX1_sign_23 : decode cX1_sign 23 = .ok (.if_icmp .ne 7, 3) := by decide +kernel
theorem dX1_sign_26 : decode cX1_sign 26 = .ok (.ldc2_w 83, 3) := by decide +kernel
theorem dX1_sign_29 : decode cX1_sign 29 = .ok (.lreturn, 1) := by decide +kernel
theorem dX1_sign_30 : decode cX1_sign 30 = .ok (.iload_n 2, 1) := by decide +kernel
theorem dX1_sign_31 : decode cX1_sign 31 = .ok (.iconst 1, 1) := by decide +kernel
theorem dX1_sign_32 : decode cX1_sign 32 = .ok (.isub, 1) := by decide +kernel
theorem dX1_sign_33 : decode cX1_sign 33 = .ok (.istore 4, 2) := by decide +kernel
theorem dX1_sign_35 : decode cX1_sign 35 = .ok (.aload_n 0, 1) := by decide +kernel
theorem dX1_sign_36 : decode cX1_sign 36 = .ok (.iload 4, 2) := by decide +kernel
theorem dX1_sign_38 : decode cX1_sign 38 = .ok (.invokevirtual 70, 3) := by decide +kernel
theorem dX1_sign_41 : decode cX1_sign 41 = .ok (.ifCond .ne 9, 3) := by decide +kernel
theorem dX1_sign_44 : decode cX1_sign 44 = .ok (.iinc 4 (-1), 3) := by decide +kernel
theorem dX1_sign_47 : decode cX1_sign 47 = .ok (.goto (-12), 3) := by decide +kernel
theorem dX1_sign_50 : decode cX1_sign 50 = .ok (.iload 4, 2) := by decide +kernel
theorem dX1_sign_52 : decode cX1_sign 52 = .ok (.iload_n 3, 1) := by decide +kernel
theorem dX1_sign_53 : decode cX1_sign 53 = .ok (.isub, 1) := by decide +kernel
theorem dX1_sign_54 : decode cX1_sign 54 = .ok (.iconst 1, 1) := by decide +kernel
theorem dX1_sign_55 : decode cX1_sign 55 = .ok (.iadd, 1) := by decide +kernel
theorem dX1_sign_56 : decode cX1_sign 56 = .ok (.aload_n 0, 1) := by decide +kernel
theorem dX1_sign_57 : decode cX1_sign 57 = .ok (.getfield 85, 3) := by decide +kernel
theorem dX1_sign_60 : decode cX1_sign 60 = .ok (.isub, 1) := by decide +kernel
theorem dX1_sign_61 : decode cX1_sign 61 = .ok (.istore 5, 2) := by decide +kernel
theorem dX1_sign_63 : decode cX1_sign 63 = .ok (.iload 5, 2) := by decide +kernel
theorem dX1_sign_65 : decode cX1_sign 65 = .ok (.iload 5, 2) := by decide +kernel
theorem dX1_sign_67 : decode cX1_sign 67 = .ok (.imul, 1) := by decide +kernel
theorem dX1_sign_68 : decode cX1_sign 68 = .ok (.i2l, 1) := by decide +kernel
theorem dX1_sign_69 : decode cX1_sign 69 = .ok (.lstore 6, 2) := by decide +kernel
theorem dX1_sign_71 : decode cX1_sign 71 = .ok (.iload_n 3, 1) := by decide +kernel
theorem dX1_sign_72 : decode cX1_sign 72 = .ok (.istore 8, 2) := by decide +kernel
theorem dX1_sign_74 : decode cX1_sign 74 = .ok (.iload 8, 2) := by decide +kernel
theorem dX1_sign_76 : decode cX1_sign 76 = .ok (.iload 4, 2) := by decide +kernel
theorem dX1_sign_78 : decode cX1_sign 78 = .ok (.if_icmp .gt 31, 3) := by decide +kernel
theorem dX1_sign_81 : decode cX1_sign 81 = .ok (.aload_n 0, 1) := by decide +kernel
theorem dX1_sign_82 : decode cX1_sign 82 = .ok (.iload 8, 2) := by decide +kernel
theorem dX1_sign_84 : decode cX1_sign 84 = .ok (.invokevirtual 70, 3) := by decide +kernel
theorem dX1_sign_87 : decode cX1_sign 87 = .ok (.ifCond .eq 8, 3) := by decide +kernel
theorem dX1_sign_90 : decode cX1_sign 90 = .ok (.lload 6, 2) := by decide +kernel
theorem dX1_sign_92 : decode cX1_sign 92 = .ok (.goto 9, 3) := by decide +kernel
theorem dX1_sign_95 : decode cX1_sign 95 = .ok (.lload 6, 2) := by decide +kernel
theorem dX1_sign_97 : decode cX1_sign 97 = .ok (.ldc2_w 88, 3) := by decide +kernel
theorem dX1_sign_100 : decode cX1_sign 100 = .ok (.ladd, 1) := by decide +kernel
theorem dX1_sign_101 : decode cX1_sign 101 = .ok (.lstore 6, 2) := by decide +kernel
theorem dX1_sign_103 : decode cX1_sign 103 = .ok (.iinc 8 1, 3) := by decide +kernel
theorem dX1_sign_106 : decode cX1_sign 106 = .ok (.goto (-32), 3) := by decide +kernel
theorem dX1_sign_109 : decode cX1_sign 109 = .ok (.iconst 0, 1) := by decide +kernel
theorem dX1_sign_110 : decode cX1_sign 110 = .ok (.istore 8, 2) := by decide +kernel
theorem dX1_sign_112 : decode cX1_sign 112 = .ok (.iconst 0, 1) := by decide +kernel
theorem dX1_sign_113 : decode cX1_sign 113 = .ok (.istore 9, 2) := by decide +kernel
theorem dX1_sign_115 : decode cX1_sign 115 = .ok (.iload 9, 2) := by decide +kernel
theorem dX1_sign_117 : decode cX1_sign 117 = .ok (.aload_n 0, 1) := by decide +kernel
theorem dX1_sign_118 : decode cX1_sign 118 = .ok (.getfield 52, 3) := by decide +kernel
theorem dX1_sign_121 : decode cX1_sign 121 = .ok (.if_icmp .ge 31, 3) := by decide +kernel
theorem dX1_sign_124 : decode cX1_sign 124 = .ok (.aload_n 0, 1) := by decide +kernel
theorem dX1_sign_125 : decode cX1_sign 125 = .ok (.iload_n 1, 1) := by decide +kernel
theorem dX1_sign_126 : decode cX1_sign 126 = .ok (.iload_n 2, 1) := by decide +kernel
theorem dX1_sign_127 : decode cX1_sign 127 = .ok (.iload 9, 2) := by decide +kernel
theorem dX1_sign_129 : decode cX1_sign 129 = .ok (.invokevirtual 90, 3) := by decide +kernel
theorem dX1_sign_132 : decode cX1_sign 132 = .ok (.ifCond .eq 10, 3) := by decide +kernel
theorem dX1_sign_135 : decode cX1_sign 135 = .ok (.iload 8, 2) := by decide +kernel
theorem dX1_sign_137 : decode cX1_sign 137 = .ok (.iconst 1, 1) := by decide +kernel
theorem dX1_sign_138 : decode cX1_sign 138 = .ok (.iadd, 1) := by decide +kernel
theorem dX1_sign_139 : decode cX1_sign 139 = .ok (.goto 5, 3) := by decide +kernel
theorem dX1_sign_142 : decode cX1_sign 142 = .ok (.iload 8, 2) := by decide +kernel
theorem dX1_sign_144 : decode cX1_sign 144 = .ok (.istore 8, 2) := by decide +kernel
theorem dX1_sign_146 : decode cX1_sign 146 = .ok (.iinc 9 1, 3) := by decide +kernel
theorem dX1_sign_149 : decode cX1_sign 149 = .ok (.goto (-34), 3) := by decide +kernel
theorem dX1_sign_152 : decode cX1_sign 152 = .ok (.iload 8, 2) := by decide +kernel
theorem dX1_sign_154 : decode cX1_sign 154 = .ok (.ifCond .le 18, 3) := by decide +kernel
theorem dX1_sign_157 : decode cX1_sign 157 = .ok (.lload 6, 2) := by decide +kernel
theorem dX1_sign_159 : decode cX1_sign 159 = .ok (.ldc2_w 94, 3) := by decide +kernel
theorem dX1_sign_162 : decode cX1_sign 162 = .ok (.iload 8, 2) := by decide +kernel
theorem dX1_sign_164 : decode cX1_sign 164 = .ok (.iconst 1, 1) := by decide +kernel
theorem dX1_sign_165 : decode cX1_sign 165 = .ok (.isub, 1) := by decide +kernel
theorem dX1_sign_166 : decode cX1_sign 166 = .ok (.i2l, 1) := by decide +kernel
theorem dX1_sign_167 : decode cX1_sign 167 = .ok (.lmul, 1) := by decide +kernel
theorem dX1_sign_168 : decode cX1_sign 168 = .ok (.ladd, 1) := by decide +kernel
theorem dX1_sign_169 : decode cX1_sign 169 = .ok (.goto 5, 3) := by decide +kernel
theorem dX1_sign_172 : decode cX1_sign 172 = .ok (.lload 6, 2) := by decide +kernel
theorem dX1_sign_174 : decode cX1_sign 174 = .ok (.lreturn, 1) := by decide +kernel
set_option maxRecDepth 20000 in
theorem ggX1_isBroken_X1_isDark : GoodIn wsX1_isBroken wsX1_isDark := goodIn_r _ [5, 6, 7, 8, 9, 10, 11, 12, 13, 14, 15, 16, 17, 18, 19, 20, 21, 22, 23] (by decide +kernel) (by decide +kernel)
set_option maxRecDepth 20000 in
theorem gX1_isBroken_X1_isDark : GoodIn wsX1_isBroken (wsV RX1 58 RX1 yX1_isDark wsX1_isDark) := goodIn_app (goodIn_of _ (by decide +kernel)) ggX1_isBroken_X1_isDark
theorem dX1_isBroken_0 : decode cX1_isBroken 0 = .ok (.iconst 0, 1) := by decide +kernel
theorem dX1_isBroken_1 : decode cX1_isBroken 1 = .ok (.istore 4, 2) := by decide +kernel
theorem dX1_isBroken_3 : decode cX1_isBroken 3 = .ok (.iconst 0, 1) := by decide +kernel
theorem dX1_isBroken_4 : decode cX1_isBroken 4 = .ok (.istore 5, 2) := by decide +kernel
theorem dX1_isBroken_6 : decode cX1_isBroken 6 = .ok (.iconst 0, 1) := by decide +kernel
theorem dX1_isBroken_7 : decode cX1_isBroken 7 = .ok (.istore 6, 2) := by decide +kernel
theorem dX1_isBroken_9 : decode cX1_isBroken 9 = .ok (.iload_n 1, 1) := by decide +kernel
theorem dX1_isBroken_10 : decode cX1_isBroken 10 = .ok (.istore 7, 2) := by decide +kernel
theorem dX1_isBroken_12 : decode cX1_isBroken 12 = .ok (.iload 7, 2) := by decide +kernel
theorem dX1_isBroken_14 : decode cX1_isBroken 14 = .ok (.iload_n 2, 1) := by decide +kernel
theorem dX1_isBroken_15 : decode cX1_isBroken 15 = .ok (.if_icmp .ge 85, 3) := by decide +kernel
theorem dX1_isBroken_18 : decode cX1_isBroken 18 = .ok (.iload 6, 2) := by decide +kernel
theorem dX1_isBroken_20 : decode cX1_isBroken 20 = .ok (.ifCond .ne 23, 3) := by decide +kernel
theorem dX1_isBroken_23 : decode cX1_isBroken 23 = .ok (.iload 4, 2) := by decide +kernel
theorem dX1_isBroken_25 : decode cX1_isBroken 25 = .ok (.ifCond .eq 22, 3) := by decide +kernel
theorem dX1_isBroken_28 : decode cX1_isBroken 28 = .ok (.iload 5, 2) := by decide +kernel
theorem dX1_isBroken_30 : decode cX1_isBroken 30 = .ok (.ifCond .eq 17, 3) := by decide +kernel
theorem dX1_isBroken_33 : decode cX1_isBroken 33 = .ok (.aload_n 0, 1) := by decide +kernel
theorem dX1_isBroken_34 : decode cX1_isBroken 34 = .ok (.iload 7, 2) := by decide +kernel
theorem dX1_isBroken_36 : decode cX1_isBroken 36 = .ok (.iload_n 3, 1) := by decide +kernel
theorem dX1_isBroken_37 : decode cX1_isBroken 37 = .ok (.invokevirtual 58, 3) := by decide +kernel
theorem dX1_isBroken_40 : decode cX1_isBroken 40 = .ok (.ifCond .eq 7, 3) := by decide +kernel
theorem dX1_isBroken_43 : decode cX1_isBroken 43 = .ok (.iconst 1, 1) := by decide +kernel
theorem dX1_isBroken_44 : decode cX1_isBroken 44 = .ok (.goto 4, 3) := by decide +kernel
end
section
theorem dX1_isBroken_47 : decode cX1_isBroken 47 = .ok (.iconst 0, 1) := by decide +kernel
theorem dX1_isBroken_48 : decode cX1_isBroken 48 = .ok (.istore 6, 2) := by decide +kernel
theorem dX1_isBroken_50 : decode cX1_isBroken 50 = .ok (.iload 4, 2) := by decide +kernel
theorem dX1_isBroken_52 : decode cX1_isBroken 52 = .ok (.ifCond .eq 17, 3) := by decide +kernel
theorem dX1_isBroken_55 : decode cX1_isBroken 55 = .ok (.aload_n 0, 1) := by decide +kernel
theorem dX1_isBroken_56 : decode cX1_isBroken 56 = .ok (.iload 7, 2) := by decide +kernel
theorem dX1_isBroken_58 : decode cX1_isBroken 58 = .ok (.iload_n 3, 1) := by decide +kernel
theorem dX1_isBroken_59 : decode cX1_isBroken 59 = .ok (.invokevirtual 58, 3) := by decide +kernel
theorem dX1_isBroken_62 : decode cX1_isBroken 62 = .ok (.ifCond .ne 7, 3) := by decide +kernel
theorem dX1_isBroken_65 : decode cX1_isBroken 65 = .ok (.iconst 1, 1) := by decide +kernel
theorem dX1_isBroken_66 : decode cX1_isBroken 66 = .ok (.goto 4, 3) := by decide +kernel
theorem dX1_isBroken_69 : decode cX1_isBroken 69 = .ok (.iconst 0, 1) := by decide +kernel
theorem dX1_isBroken_70 : decode cX1_isBroken 70 = .ok (.istore 5, 2) := by decide +kernel
theorem dX1_isBroken_72 : decode cX1_isBroken 72 = .ok (.iload 4, 2) := by decide +kernel
theorem dX1_isBroken_74 : decode cX1_isBroken 74 = .ok (.ifCond .ne 13, 3) := by decide +kernel
theorem dX1_isBroken_77 : decode cX1_isBroken 77 = .ok (.aload_n 0, 1) := by decide +kernel
theorem dX1_isBroken_78 : decode cX1_isBroken 78 = .ok (.iload 7, 2) := by decide +kernel
theorem dX1_isBroken_80 : decode cX1_isBroken 80 = .ok (.iload_n 3, 1) := by decide +kernel
theorem dX1_isBroken_81 : decode cX1_isBroken 81 = .ok (.invokevirtual 58, 3) := by decide +kernel
theorem dX1_isBroken_84 : decode cX1_isBroken 84 = .ok (.ifCond .eq 7, 3) := by decide +kernel
theorem dX1_isBroken_87 : decode cX1_isBroken 87 = .ok (.iconst 1, 1) := by decide +kernel
theorem dX1_isBroken_88 : decode cX1_isBroken 88 = .ok (.goto 4, 3) := by decide +kernel
theorem dX1_isBroken_91 : decode cX1_isBroken 91 = .ok (.iconst 0, 1) := by decide +kernel
theorem dX1_isBroken_92 : decode cX1_isBroken 92 = .ok (.istore 4, 2) := by decide +kernel
theorem dX1_isBroken_94 : decode cX1_isBroken 94 = .ok (.iinc 7 1, 3) := by decide +kernel
theorem dX1_isBroken_97 : decode cX1_isBroken 97 = .ok (.goto (-85), 3) := by decide +kernel
theorem dX1_isBroken_100 : decode cX1_isBroken 100 = .ok (.iload 6, 2) := by decide +kernel
theorem dX1_isBroken_102 : decode cX1_isBroken 102 = .ok (.ireturn, 1) := by decide +kernel
theorem dX1_keep_0 : decode cX1_keep 0 = .ok (.aload_n 0, 1) := by decide +kernel
theorem dX1_keep_1 : decode cX1_keep 1 = .ok (.getfield 13, 3) := by decide +kernel
theorem dX1_keep_4 : decode cX1_keep 4 = .ok (.iload_n 1, 1) := by decide +kernel
theorem dX1_keep_5 : decode cX1_keep 5 = .ok (.iaload, 1) := by decide +kernel
theorem dX1_keep_6 : decode cX1_keep 6 = .ok (.istore 6, 2) := by decide +kernel
theorem dX1_keep_8 : decode cX1_keep 8 = .ok (.iload 6, 2) := by decide +kernel
theorem dX1_keep_10 : decode cX1_keep 10 = .ok (.ifCond .le 28, 3) := by decide +kernel
theorem dX1_keep_13 : decode cX1_keep 13 = .ok (.aload_n 0, 1) := by decide +kernel
theorem dX1_keep_14 : decode cX1_keep 14 = .ok (.getfield 17, 3) := by decide +kernel
theorem dX1_keep_17 : decode cX1_keep 17 = .ok (.bipush 40, 2) := by decide +kernel
theorem dX1_keep_19 : decode cX1_keep 19 = .ok (.iload_n 1, 1) := by decide +kernel
theorem dX1_keep_20 : decode cX1_keep 20 = .ok (.imul, 1) := by decide +kernel
theorem dX1_keep_21 : decode cX1_keep 21 = .ok (.iload 6, 2) := by decide +kernel
theorem dX1_keep_23 : decode cX1_keep 23 = .ok (.iadd, 1) := by decide +kernel
theorem dX1_keep_24 : decode cX1_keep 24 = .ok (.iconst 1, 1) := by decide +kernel
theorem dX1_keep_25 : decode cX1_keep 25 = .ok (.isub, 1) := by decide +kernel
theorem dX1_keep_26 : decode cX1_keep 26 = .ok (.laload, 1) := by decide +kernel
theorem dX1_keep_27 : decode cX1_keep 27 = .ok (.lload_n 2, 1) := by decide +kernel
theorem dX1_keep_28 : decode cX1_keep 28 = .ok (.lcmp, 1) := by decide +kernel
theorem dX1_keep_29 : decode cX1_keep 29 = .ok (.ifCond .le 9, 3) := by decide +kernel
theorem dX1_keep_32 : decode cX1_keep 32 = .ok (.iinc 6 (-1), 3) := by decide +kernel
theorem dX1_keep_35 : decode cX1_keep 35 = .ok (.goto (-27), 3) := by decide +kernel
theorem dX1_keep_38 : decode cX1_keep 38 = .ok (.iload 6, 2) := by decide +kernel
theorem dX1_keep_40 : decode cX1_keep 40 = .ok (.bipush 40, 2) := by decide +kernel
theorem dX1_keep_42 : decode cX1_keep 42 = .ok (.if_icmp .ne 4, 3) := by decide +kernel
theorem dX1_keep_45 : decode cX1_keep 45 = .ok (.return_, 1) := by decide +kernel
theorem dX1_keep_46 : decode cX1_keep 46 = .ok (.aload_n 0, 1) := by decide +kernel
theorem dX1_keep_47 : decode cX1_keep 47 = .ok (.getfield 13, 3) := by decide +kernel
theorem dX1_keep_50 : decode cX1_keep 50 = .ok (.iload_n 1, 1) := by decide +kernel
theorem dX1_keep_51 : decode cX1_keep 51 = .ok (.aload_n 0, 1) := by decide +kernel
theorem dX1_keep_52 : decode cX1_keep 52 = .ok (.getfield 13, 3) := by decide +kernel
theorem dX1_keep_55 : decode cX1_keep 55 = .ok (.iload_n 1, 1) := by decide +kernel
theorem dX1_keep_56 : decode cX1_keep 56 = .ok (.iaload, 1) := by decide +kernel
theorem dX1_keep_57 : decode cX1_keep 57 = .ok (.bipush 40, 2) := by decide +kernel
theorem dX1_keep_59 : decode cX1_keep 59 = .ok (.if_icmp .ge 14, 3) := by decide +kernel
theorem dX1_keep_62 : decode cX1_keep 62 = .ok (.aload_n 0, 1) := by decide +kernel
theorem dX1_keep_63 : decode cX1_keep 63 = .ok (.getfield 13, 3) := by decide +kernel
theorem dX1_keep_66 : decode cX1_keep 66 = .ok (.iload_n 1, 1) := by decide +kernel
theorem dX1_keep_67 : decode cX1_keep 67 = .ok (.iaload, 1) := by decide +kernel
theorem dX1_keep_68 : decode cX1_keep 68 = .ok (.iconst 1, 1) := by decide +kernel
theorem dX1_keep_69 : decode cX1_keep 69 = .ok (.iadd, 1) := by decide +kernel
theorem dX1_keep_70 : decode cX1_keep 70 = .ok (.goto 5, 3) := by decide +kernel
theorem dX1_keep_73 : decode cX1_keep 73 = .ok (.bipush 40, 2) := by decide +kernel
theorem dX1_keep_75 : decode cX1_keep 75 = .ok (.iastore, 1) := by decide +kernel
theorem dX1_keep_76 : decode cX1_keep 76 = .ok (.aload_n 0, 1) := by decide +kernel
theorem dX1_keep_77 : decode cX1_keep 77 = .ok (.getfield 13, 3) := by decide +kernel
theorem dX1_keep_80 : decode cX1_keep 80 = .ok (.iload_n 1, 1) := by decide +kernel
theorem dX1_keep_81 : decode cX1_keep 81 = .ok (.iaload, 1) := by decide +kernel
theorem dX1_keep_82 : decode cX1_keep 82 = .ok (.iconst 1, 1) := by decide +kernel
theorem dX1_keep_83 : decode cX1_keep 83 = .ok (.isub, 1) := by decide +kernel
theorem dX1_keep_84 : decode cX1_keep 84 = .ok (.istore 7, 2) := by decide +kernel
theorem dX1_keep_86 : decode cX1_keep 86 = .ok (.iload 7, 2) := by decide +kernel
theorem dX1_keep_88 : decode cX1_keep 88 = .ok (.iload 6, 2) := by decide +kernel
theorem dX1_keep_90 : decode cX1_keep 90 = .ok (.if_icmp .le 87, 3) := by decide +kernel
theorem dX1_keep_93 : decode cX1_keep 93 = .ok (.aload_n 0, 1) := by decide +kernel
theorem dX1_keep_94 : decode cX1_keep 94 = .ok (.getfield 17, 3) := by decide +kernel
theorem dX1_keep_97 : decode cX1_keep 97 = .ok (.bipush 40, 2) := by decide +kernel
theorem dX1_keep_99 : decode cX1_keep 99 = .ok (.iload_n 1, 1) := by decide +kernel
theorem dX1_keep_100 : decode cX1_keep 100 = .ok (.imul, 1) := by decide +kernel
theorem dX1_keep_101 : decode cX1_keep 101 = .ok (.iload 7, 2) := by decide +kernel
theorem dX1_keep_103 : decode cX1_keep 103 = .ok (.iadd, 1) := by decide +kernel
theorem dX1_keep_104 : decode cX1_keep 104 = .ok (.aload_n 0, 1) := by decide +kernel
theorem dX1_keep_105 : decode cX1_keep 105 = .ok (.getfield 17, 3) := by decide +kernel
theorem dX1_keep_108 : decode cX1_keep 108 = .ok (.bipush 40, 2) := by decide +kernel
theorem dX1_keep_110 : decode cX1_keep 110 = .ok (.iload_n 1, 1) := by decide +kernel
theorem dX1_keep_111 : decode cX1_keep 111 = .ok (.imul, 1) := by decide +kernel
theorem dX1_keep_112 : decode cX1_keep 112 = .ok (.iload 7, 2) := by decide +kernel
theorem dX1_keep_114 : decode cX1_keep 114 = .ok (.iadd, 1) := by decide +kernel
theorem dX1_keep_115 : decode cX1_keep 115 = .ok (.iconst 1, 1) := by decide +kernel
theorem dX1_keep_116 : decode cX1_keep 116 = .ok (.isub, 1) := by decide +kernel
theorem dX1_keep_117 : decode cX1_keep 117 = .ok (.laload, 1) := by decide +kernel
theorem dX1_keep_118 : decode cX1_keep 118 = .ok (.lastore, 1) := by decide +kernel
theorem dX1_keep_119 : decode cX1_keep 119 = .ok (.aload_n 0, 1) := by decide +kernel
theorem dX1_keep_120 : decode cX1_keep 120 = .ok (.getfield 21, 3) := by decide +kernel
theorem dX1_keep_123 : decode cX1_keep 123 = .ok (.bipush 40, 2) := by decide +kernel
theorem dX1_keep_125 : decode cX1_keep 125 = .ok (.iload_n 1, 1) := by decide +kernel
theorem dX1_keep_126 : decode cX1_keep 126 = .ok (.imul, 1) := by decide +kernel
theorem dX1_keep_127 : decode cX1_keep 127 = .ok (.iload 7, 2) := by decide +kernel
theorem dX1_keep_129 : decode cX1_keep 129 = .ok (.iadd, 1) := by decide +kernel
theorem dX1_keep_130 : decode cX1_keep 130 = .ok (.aload_n 0, 1) := by decide +kernel
theorem dX1_keep_131 : decode cX1_keep 131 = .ok (.getfield 21, 3) := by decide +kernel
theorem dX1_keep_134 : decode cX1_keep 134 = .ok (.bipush 40, 2) := by decide +kernel
theorem dX1_keep_136 : decode cX1_keep 136 = .ok (.iload_n 1, 1) := by decide +kernel
theorem dX1_keep_137 : decode cX1_keep 137 = .ok (.imul, 1) := by decide +kernel
theorem dX1_keep_138 : decode cX1_keep 138 = .ok (.iload 7, 2) := by decide +kernel
theorem dX1_keep_140 : decode cX1_keep 140 = .ok (.iadd, 1) := by decide +kernel
theorem dX1_keep_141 : decode cX1_keep 141 = .ok (.iconst 1, 1) := by decide +kernel
theorem dX1_keep_142 : decode cX1_keep 142 = .ok (.isub, 1) := by decide +kernel
theorem dX1_keep_143 : decode cX1_keep 143 = .ok (.iaload, 1) := by decide +kernel
theorem dX1_keep_144 : decode cX1_keep 144 = .ok (.iastore, 1) := by decide +kernel
theorem dX1_keep_145 : decode cX1_keep 145 = .ok (.aload_n 0, 1) := by decide +kernel
theorem dX1_keep_146 : decode cX1_keep 146 = .ok (.getfield 24, 3) := by decide +kernel
theorem dX1_keep_149 : decode cX1_keep 149 = .ok (.bipush 40, 2) := by decide +kernel
theorem dX1_keep_151 : decode cX1_keep 151 = .ok (.iload_n 1, 1) := by decide +kernel
theorem dX1_keep_152 : decode cX1_keep 152 = .ok (.imul, 1) := by decide +kernel
theorem dX1_keep_153 : decode cX1_keep 153 = .ok (.iload 7, 2) := by decide +kernel
theorem dX1_keep_155 : decode cX1_keep 155 = .ok (.iadd, 1) := by decide +kernel
theorem dX1_keep_156 : decode cX1_keep 156 = .ok (.aload_n 0, 1) := by decide +kernel
theorem dX1_keep_157 : decode cX1_keep 157 = .ok (.getfield 24, 3) := by decide +kernel
theorem dX1_keep_160 : decode cX1_keep 160 = .ok (.bipush 40, 2) := by decide +kernel
theorem dX1_keep_162 : decode cX1_keep 162 = .ok (.iload_n 1, 1) := by decide +kernel
theorem dX1_keep_163 : decode cX1_keep 163 = .ok (.imul, 1) := by decide +kernel
theorem dX1_keep_164 : decode cX1_keep 164 = .ok (.iload 7, 2) := by decide +kernel
theorem dX1_keep_166 : decode cX1_keep 166 = .ok (.iadd, 1) := by decide +kernel
theorem dX1_keep_167 : decode cX1_keep 167 = .ok (.iconst 1, 1) := by decide +kernel
theorem dX1_keep_168 : decode cX1_keep 168 = .ok (.isub, 1) := by decide +kernel
theorem dX1_keep_169 : decode cX1_keep 169 = .ok (.iaload, 1) := by decide +kernel
theorem dX1_keep_170 : decode cX1_keep 170 = .ok (.iastore, 1) := by decide +kernel
theorem dX1_keep_171 : decode cX1_keep 171 = .ok (.iinc 7 (-1), 3) := by decide +kernel
theorem dX1_keep_174 : decode cX1_keep 174 = .ok (.goto (-88), 3) := by decide +kernel
theorem dX1_keep_177 : decode cX1_keep 177 = .ok (.aload_n 0, 1) := by decide +kernel
theorem dX1_keep_178 : decode cX1_keep 178 = .ok (.getfield 17, 3) := by decide +kernel
theorem dX1_keep_181 : decode cX1_keep 181 = .ok (.bipush 40, 2) := by decide +kernel
theorem dX1_keep_183 : decode cX1_keep 183 = .ok (.iload_n 1, 1) := by decide +kernel
theorem dX1_keep_184 : decode cX1_keep 184 = .ok (.imul, 1) := by decide +kernel
theorem dX1_keep_185 : decode cX1_keep 185 = .ok (.iload 6, 2) := by decide +kernel
theorem dX1_keep_187 : decode cX1_keep 187 = .ok (.iadd, 1) := by decide +kernel
theorem dX1_keep_188 : decode cX1_keep 188 = .ok (.lload_n 2, 1) := by decide +kernel
theorem dX1_keep_189 : decode cX1_keep 189 = .ok (.lastore, 1) := by decide +kernel
theorem dX1_keep_190 : decode cX1_keep 190 = .ok (.aload_n 0, 1) := by decide +kernel
theorem dX1_keep_191 : decode cX1_keep 191 = .ok (.getfield 21, 3) := by decide +kernel
theorem dX1_keep_194 : decode cX1_keep 194 = .ok (.bipush 40, 2) := by decide +kernel
theorem dX1_keep_196 : decode cX1_keep 196 = .ok (.iload_n 1, 1) := by decide +kernel
theorem dX1_keep_197 : decode cX1_keep 197 = .ok (.imul, 1) := by decide +kernel
theorem dX1_keep_198 : decode cX1_keep 198 = .ok (.iload 6, 2) := by decide +kernel
theorem dX1_keep_200 : decode cX1_keep 200 = .ok (.iadd, 1) := by decide +kernel
theorem dX1_keep_201 : decode cX1_keep 201 = .ok (.iload 4, 2) := by decide +kernel
theorem dX1_keep_203 : decode cX1_keep 203 = .ok (.iastore, 1) := by decide +kernel
theorem dX1_keep_204 : decode cX1_keep 204 = .ok (.aload_n 0, 1) := by decide +kernel
theorem dX1_keep_205 : decode cX1_keep 205 = .ok (.getfield 24, 3) := by decide +kernel
theorem dX1_keep_208 : decode cX1_keep 208 = .ok (.bipush 40, 2) := by decide +kernel
theorem dX1_keep_210 : decode cX1_keep 210 = .ok (.iload_n 1, 1) := by decide +kernel
theorem dX1_keep_211 : decode cX1_keep 211 = .ok (.imul, 1) := by decide +kernel
theorem dX1_keep_212 : decode cX1_keep 212 = .ok (.iload 6, 2) := by decide +kernel
theorem dX1_keep_214 : decode cX1_keep 214 = .ok (.iadd, 1) := by decide +kernel
theorem dX1_keep_215 : decode cX1_keep 215 = .ok (.iload 5, 2) := by decide +kernel
theorem dX1_keep_217 : decode cX1_keep 217 = .ok (.iastore, 1) := by decide +kernel
theorem dX1_keep_218 : decode cX1_keep 218 = .ok (.return_, 1) := by decide +kernel
set_option maxRecDepth 20000 in
theorem ggX1_look_X1_due : GoodIn wsX1_look wsX1_due := goodIn_r _ [9, 10, 11, 12, 8, 13, 14, 15, 16, 17, 18, 19, 20, 21, 22, 23, 24, 25, 26, 27, 28, 29, 30, 31, 32, 55, 56, 57, 58, 59, 60, 61, 62, 63, 64, 65, 66, 67, 68, 69, 70, 71] (by decide +kernel) (by decide +kernel)
set_option maxRecDepth 20000 in
theorem gX1_look_X1_due : GoodIn wsX1_look (wsV RX1 96 RX1 yX1_due wsX1_due) := goodIn_app (goodIn_of _ (by decide +kernel)) ggX1_look_X1_due
set_option maxRecDepth 20000 in
theorem ggX1_look_X1_mayCut : GoodIn wsX1_look wsX1_mayCut := goodIn_r _ [36, 37, 38, 39, 8, 40, 14, 24, 25, 26, 27, 28, 41, 42, 43, 44, 23, 55, 56, 57, 58, 59, 60, 61, 62, 63, 64, 65, 66, 67, 68, 69, 70, 71] (by decide +kernel) (by decide +kernel)
set_option maxRecDepth 20000 in
theorem gX1_look_X1_mayCut : GoodIn wsX1_look (wsV RX1 99 RX1 yX1_mayCut wsX1_mayCut) := goodIn_app (goodIn_of _ (by decide +kernel)) ggX1_look_X1_mayCut
set_option maxRecDepth 20000 in
theorem ggX1_look_X1_sign : GoodIn wsX1_look wsX1_sign := goodIn_r _ [48, 4, 1, 49, 14, 50, 41, 42, 43, 8, 44, 23, 24, 25, 26, 27, 28, 51, 52, 53, 54, 55, 56, 57, 58, 59, 60, 61, 62, 63, 64, 65, 66, 67, 68, 69, 70, 71] (by decide +kernel) (by decide +kernel)
set_option maxRecDepth 20000 in
theorem gX1_look_X1_sign : GoodIn wsX1_look (wsV RX1 102 RX1 yX1_sign wsX1_sign) := goodIn_app (goodIn_of _ (by decide +kernel)) ggX1_look_X1_sign
theorem dX1_look_0 : decode cX1_look 0 = .ok (.aload_n 0, 1) := by decide +kernel
theorem dX1_look_1 : decode cX1_look 1 = .ok (.aload_n 0, 1) := by decide +kernel
theorem dX1_look_2 : decode cX1_look 2 = .ok (.invokevirtual 96, 3) := by decide +kernel
theorem dX1_look_5 : decode cX1_look 5 = .ok (.putfield 85, 3) := by decide +kernel
theorem dX1_look_8 : decode cX1_look 8 = .ok (.iload_n 1, 1) := by decide +kernel
theorem dX1_look_9 : decode cX1_look 9 = .ok (.istore_n 3, 1) := by decide +kernel
theorem dX1_look_10 : decode cX1_look 10 = .ok (.iload_n 3, 1) := by decide +kernel
theorem dX1_look_11 : decode cX1_look 11 = .ok (.iload_n 2, 1) := by decide +kernel
theorem dX1_look_12 : decode cX1_look 12 = .ok (.if_icmp .gt 38, 3) := by decide +kernel
theorem dX1_look_15 : decode cX1_look 15 = .ok (.aload_n 0, 1) := by decide +kernel
theorem dX1_look_16 : decode cX1_look 16 = .ok (.getfield 45, 3) := by decide +kernel
theorem dX1_look_19 : decode cX1_look 19 = .ok (.iload_n 3, 1) := by decide +kernel
theorem dX1_look_20 : decode cX1_look 20 = .ok (.iload_n 3, 1) := by decide +kernel
theorem dX1_look_21 : decode cX1_look 21 = .ok (.iload_n 1, 1) := by decide +kernel
theorem dX1_look_22 : decode cX1_look 22 = .ok (.if_icmp .eq 16, 3) := by decide +kernel
theorem dX1_look_25 : decode cX1_look 25 = .ok (.iload_n 3, 1) := by decide +kernel
theorem dX1_look_26 : decode cX1_look 26 = .ok (.iload_n 2, 1) := by decide +kernel
theorem dX1_look_27 : decode cX1_look 27 = .ok (.if_icmp .eq 11, 3) := by decide +kernel
theorem dX1_look_30 : decode cX1_look 30 = .ok (.aload_n 0, 1) := by decide +kernel
theorem dX1_look_31 : decode cX1_look 31 = .ok (.iload_n 3, 1) := by decide +kernel
theorem dX1_look_32 : decode cX1_look 32 = .ok (.invokevirtual 99, 3) := by decide +kernel
theorem dX1_look_35 : decode cX1_look 35 = .ok (.ifCond .eq 7, 3) := by decide +kernel
theorem dX1_look_38 : decode cX1_look 38 = .ok (.iconst 1, 1) := by decide +kernel
theorem dX1_look_39 : decode cX1_look 39 = .ok (.goto 4, 3) := by decide +kernel
theorem dX1_look_42 : decode cX1_look 42 = .ok (.iconst 0, 1) := by decide +kernel
theorem dX1_look_43 : decode cX1_look 43 = .ok (.bastore, 1) := by decide +kernel
theorem dX1_look_44 : decode cX1_look 44 = .ok (.iinc 3 1, 3) := by decide +kernel
theorem dX1_look_47 : decode cX1_look 47 = .ok (.goto (-37), 3) := by decide +kernel
theorem dX1_look_50 : decode cX1_look 50 = .ok (.iload_n 1, 1) := by decide +kernel
theorem dX1_look_51 : decode cX1_look 51 = .ok (.istore_n 3, 1) := by decide +kernel
theorem dX1_look_52 : decode cX1_look 52 = .ok (.iload_n 3, 1) := by decide +kernel
theorem dX1_look_53 : decode cX1_look 53 = .ok (.iload_n 2, 1) := by decide +kernel
theorem dX1_look_54 : decode cX1_look 54 = .ok (.if_icmp .ge 70, 3) := by decide +kernel
theorem dX1_look_57 : decode cX1_look 57 = .ok (.iload_n 3, 1) := by decide +kernel
theorem dX1_look_58 : decode cX1_look 58 = .ok (.iconst 1, 1) := by decide +kernel
theorem dX1_look_59 : decode cX1_look 59 = .ok (.iadd, 1) := by decide +kernel
theorem dX1_look_60 : decode cX1_look 60 = .ok (.istore 4, 2) := by decide +kernel
theorem dX1_look_62 : decode cX1_look 62 = .ok (.iload 4, 2) := by decide +kernel
theorem dX1_look_64 : decode cX1_look 64 = .ok (.iload_n 2, 1) := by decide +kernel
theorem dX1_look_65 : decode cX1_look 65 = .ok (.if_icmp .gt 53, 3) := by decide +kernel
theorem dX1_look_68 : decode cX1_look 68 = .ok (.aload_n 0, 1) := by decide +kernel
theorem dX1_look_69 : decode cX1_look 69 = .ok (.getfield 42, 3) := by decide +kernel
theorem dX1_look_72 : decode cX1_look 72 = .ok (.bipush 61, 2) := by decide +kernel
theorem dX1_look_74 : decode cX1_look 74 = .ok (.iload_n 3, 1) := by decide +kernel
theorem dX1_look_75 : decode cX1_look 75 = .ok (.imul, 1) := by decide +kernel
theorem dX1_look_76 : decode cX1_look 76 = .ok (.iload 4, 2) := by decide +kernel
theorem dX1_look_78 : decode cX1_look 78 = .ok (.iadd, 1) := by decide +kernel
theorem dX1_look_79 : decode cX1_look 79 = .ok (.aload_n 0, 1) := by decide +kernel
theorem dX1_look_80 : decode cX1_look 80 = .ok (.getfield 45, 3) := by decide +kernel
theorem dX1_look_83 : decode cX1_look 83 = .ok (.iload_n 3, 1) := by decide +kernel
theorem dX1_look_84 : decode cX1_look 84 = .ok (.baload, 1) := by decide +kernel
theorem dX1_look_85 : decode cX1_look 85 = .ok (.ifCond .eq 23, 3) := by decide +kernel
theorem dX1_look_88 : decode cX1_look 88 = .ok (.aload_n 0, 1) := by decide +kernel
theorem dX1_look_89 : decode cX1_look 89 = .ok (.getfield 45, 3) := by decide +kernel
theorem dX1_look_92 : decode cX1_look 92 = .ok (.iload 4, 2) := by decide +kernel
theorem dX1_look_94 : decode cX1_look 94 = .ok (.baload, 1) := by decide +kernel
theorem dX1_look_95 : decode cX1_look 95 = .ok (.ifCond .eq 13, 3) := by decide +kernel
theorem dX1_look_98 : decode cX1_look 98 = .ok (.aload_n 0, 1) := by decide +kernel
theorem dX1_look_99 : decode cX1_look 99 = .ok (.iload_n 3, 1) := by decide +kernel
theorem dX1_look_100 : decode cX1_look 100 = .ok (.iload 4, 2) := by decide +kernel
theorem dX1_look_102 : decode cX1_look 102 = .ok (.invokevirtual 102, 3) := by decide +kernel
theorem dX1_look_105 : decode cX1_look 105 = .ok (.goto 6, 3) := by decide +kernel
theorem dX1_look_108 : decode cX1_look 108 = .ok (.ldc2_w 83, 3) := by decide +kernel
theorem dX1_look_111 : decode cX1_look 111 = .ok (.lastore, 1) := by decide +kernel
theorem dX1_look_112 : decode cX1_look 112 = .ok (.iinc 4 1, 3) := by decide +kernel
theorem dX1_look_115 : decode cX1_look 115 = .ok (.goto (-53), 3) := by decide +kernel
theorem dX1_look_118 : decode cX1_look 118 = .ok (.iinc 3 1, 3) := by decide +kernel
theorem dX1_look_121 : decode cX1_look 121 = .ok (.goto (-69), 3) := by decide +kernel
theorem dX1_look_124 : decode cX1_look 124 = .ok (.return_, 1) := by decide +kernel
set_option maxRecDepth 20000 in
theorem ggX1_fill_X1_look : GoodIn wsX1_fill wsX1_look := goodIn_r _ [10, 11, 2, 3, 12, 13, 14, 15, 9, 16, 17, 18, 19, 20, 21, 22, 23, 24, 25, 26, 27, 28, 29, 30, 31, 32, 33, 34, 35, 36, 37, 38, 39, 40, 41, 42, 43, 44, 45, 46, 47, 48, 49, 50, 51, 52, 53, 54, 55, 56, 57, 58, 59, 60, 61, 68, 69, 70, 71, 72, 73, 74, 75, 76, 77, 78, 79, 80, 81, 82, 83, 84] (by decide +kernel) (by decide +kernel)
set_option maxRecDepth 20000 in
theorem gX1_fill_X1_look : GoodIn wsX1_fill (wsV RX1 106 RX1 yX1_look wsX1_look) := goodIn_app (goodIn_of _ (by decide +kernel)) ggX1_fill_X1_look
set_option maxRecDepth 20000 in
theorem ggX1_fill_X1_keep : GoodIn wsX1_fill wsX1_keep := goodIn_r _ [65, 1, 5, 66, 67, 68, 69, 70, 71, 72, 73, 74, 75, 76, 77, 78, 79, 80, 81, 82, 83, 84] (by decide +kernel) (by decide +kernel)
set_option maxRecDepth 20000 in
theorem gX1_fill_X1_keep : GoodIn wsX1_fill (wsV RX1 110 RX1 yX1_keep wsX1_keep) := goodIn_app (goodIn_of _ (by decide +kernel)) ggX1_fill_X1_keep
set_option maxRecDepth 20000 in
theorem ggX1_fill_X1_touch : GoodIn wsX1_fill wsX1_touch := goodIn_r _ [47, 21, 31, 32, 33, 9, 34, 35, 68, 69, 70, 71, 72, 73, 74, 75, 76, 77, 78, 79, 80, 81, 82, 83, 84] (by decide +kernel) (by decide +kernel)
set_option maxRecDepth 20000 in
theorem gX1_fill_X1_touch : GoodIn wsX1_fill (wsV RX1 80 RX1 yX1_touch wsX1_touch) := goodIn_app (goodIn_of _ (by decide +kernel)) ggX1_fill_X1_touch
theorem dX1_fill_0 : decode cX1_fill 0 = .ok (.aload_n 0, 1) := by decide +kernel
theorem dX1_fill_1 : decode cX1_fill 1 = .ok (.iload_n 1, 1) := by decide +kernel
theorem dX1_fill_2 : decode cX1_fill 2 = .ok (.iload_n 2, 1) := by decide +kernel
theorem dX1_fill_3 : decode cX1_fill 3 = .ok (.invokevirtual 106, 3) := by decide +kernel
theorem dX1_fill_6 : decode cX1_fill 6 = .ok (.iload_n 2, 1) := by decide +kernel
theorem dX1_fill_7 : decode cX1_fill 7 = .ok (.istore_n 3, 1) := by decide +kernel
theorem dX1_fill_8 : decode cX1_fill 8 = .ok (.iload_n 3, 1) := by decide +kernel
theorem dX1_fill_9 : decode cX1_fill 9 = .ok (.iload_n 1, 1) := by decide +kernel
theorem dX1_fill_10 : decode cX1_fill 10 = .ok (.if_icmp .lt 147, 3) := by decide +kernel
theorem dX1_fill_13 : decode cX1_fill 13 = .ok (.aload_n 0, 1) := by decide +kernel
theorem dX1_fill_14 : decode cX1_fill 14 = .ok (.getfield 13, 3) := by decide +kernel
theorem dX1_fill_17 : decode cX1_fill 17 = .ok (.iload_n 3, 1) := by decide +kernel
theorem dX1_fill_18 : decode cX1_fill 18 = .ok (.iconst 0, 1) := by decide +kernel
theorem dX1_fill_19 : decode cX1_fill 19 = .ok (.iastore, 1) := by decide +kernel
theorem dX1_fill_20 : decode cX1_fill 20 = .ok (.iload_n 3, 1) := by decide +kernel
theorem dX1_fill_21 : decode cX1_fill 21 = .ok (.iload_n 2, 1) := by decide +kernel
theorem dX1_fill_22 : decode cX1_fill 22 = .ok (.if_icmp .ne 14, 3) := by decide +kernel
theorem dX1_fill_25 : decode cX1_fill 25 = .ok (.aload_n 0, 1) := by decide +kernel
theorem dX1_fill_26 : decode cX1_fill 26 = .ok (.iload_n 3, 1) := by decide +kernel
theorem dX1_fill_27 : decode cX1_fill 27 = .ok (.lconst 0, 1) := by decide +kernel
theorem dX1_fill_28 : decode cX1_fill 28 = .ok (.iconst (-1), 1) := by decide +kernel
theorem dX1_fill_29 : decode cX1_fill 29 = .ok (.iconst (-1), 1) := by decide +kernel
theorem dX1_fill_30 : decode cX1_fill 30 = .ok (.invokevirtual 110, 3) := by decide +kernel
theorem dX1_fill_33 : decode cX1_fill 33 = .ok (.goto 118, 3) := by decide +kernel
theorem dX1_fill_36 : decode cX1_fill 36 = .ok (.aload_n 0, 1) := by decide +kernel
theorem dX1_fill_37 : decode cX1_fill 37 = .ok (.getfield 45, 3) := by decide +kernel
theorem dX1_fill_40 : decode cX1_fill 40 = .ok (.iload_n 3, 1) := by decide +kernel
theorem dX1_fill_41 : decode cX1_fill 41 = .ok (.baload, 1) := by decide +kernel
theorem dX1_fill_42 : decode cX1_fill 42 = .ok (.ifCond .eq 109, 3) := by decide +kernel
theorem dX1_fill_45 : decode cX1_fill 45 = .ok (.iload_n 3, 1) := by decide +kernel
theorem dX1_fill_46 : decode cX1_fill 46 = .ok (.iconst 1, 1) := by decide +kernel
theorem dX1_fill_47 : decode cX1_fill 47 = .ok (.iadd, 1) := by decide +kernel
theorem dX1_fill_48 : decode cX1_fill 48 = .ok (.istore 4, 2) := by decide +kernel
theorem dX1_fill_50 : decode cX1_fill 50 = .ok (.iload 4, 2) := by decide +kernel
theorem dX1_fill_52 : decode cX1_fill 52 = .ok (.iload_n 2, 1) := by decide +kernel
theorem dX1_fill_53 : decode cX1_fill 53 = .ok (.if_icmp .gt 98, 3) := by decide +kernel
theorem dX1_fill_56 : decode cX1_fill 56 = .ok (.aload_n 0, 1) := by decide +kernel
theorem dX1_fill_57 : decode cX1_fill 57 = .ok (.getfield 42, 3) := by decide +kernel
theorem dX1_fill_60 : decode cX1_fill 60 = .ok (.bipush 61, 2) := by decide +kernel
theorem dX1_fill_62 : decode cX1_fill 62 = .ok (.iload_n 3, 1) := by decide +kernel
theorem dX1_fill_63 : decode cX1_fill 63 = .ok (.imul, 1) := by decide +kernel
theorem dX1_fill_64 : decode cX1_fill 64 = .ok (.iload 4, 2) := by decide +kernel
theorem dX1_fill_66 : decode cX1_fill 66 = .ok (.iadd, 1) := by decide +kernel
theorem dX1_fill_67 : decode cX1_fill 67 = .ok (.laload, 1) := by decide +kernel
theorem dX1_fill_68 : decode cX1_fill 68 = .ok (.lstore 5, 2) := by decide +kernel
theorem dX1_fill_70 : decode cX1_fill 70 = .ok (.iconst 0, 1) := by decide +kernel
theorem dX1_fill_71 : decode cX1_fill 71 = .ok (.istore 7, 2) := by decide +kernel
theorem dX1_fill_73 : decode cX1_fill 73 = .ok (.iload 7, 2) := by decide +kernel
theorem dX1_fill_75 : decode cX1_fill 75 = .ok (.aload_n 0, 1) := by decide +kernel
theorem dX1_fill_76 : decode cX1_fill 76 = .ok (.getfield 13, 3) := by decide +kernel
theorem dX1_fill_79 : decode cX1_fill 79 = .ok (.iload 4, 2) := by decide +kernel
theorem dX1_fill_81 : decode cX1_fill 81 = .ok (.iaload, 1) := by decide +kernel
theorem dX1_fill_82 : decode cX1_fill 82 = .ok (.if_icmp .ge 63, 3) := by decide +kernel
theorem dX1_fill_85 : decode cX1_fill 85 = .ok (.lload 5, 2) := by decide +kernel
theorem dX1_fill_87 : decode cX1_fill 87 = .ok (.lconst 0, 1) := by decide +kernel
theorem dX1_fill_88 : decode cX1_fill 88 = .ok (.lcmp, 1) := by decide +kernel
theorem dX1_fill_89 : decode cX1_fill 89 = .ok (.ifCond .lt 56, 3) := by decide +kernel
theorem dX1_fill_92 : decode cX1_fill 92 = .ok (.aload_n 0, 1) := by decide +kernel
theorem dX1_fill_93 : decode cX1_fill 93 = .ok (.iload_n 3, 1) := by decide +kernel
theorem dX1_fill_94 : decode cX1_fill 94 = .ok (.lload 5, 2) := by decide +kernel
theorem dX1_fill_96 : decode cX1_fill 96 = .ok (.iload 4, 2) := by decide +kernel
theorem dX1_fill_98 : decode cX1_fill 98 = .ok (.iload_n 2, 1) := by decide +kernel
theorem dX1_fill_99 : decode cX1_fill 99 = .ok (.if_icmp .ge 17, 3) := by decide +kernel
theorem dX1_fill_102 : decode cX1_fill 102 = .ok (.ldc2_w 114, 3) := by decide +kernel
theorem dX1_fill_105 : decode cX1_fill 105 = .ok (.aload_n 0, 1) := by decide +kernel
theorem dX1_fill_106 : decode cX1_fill 106 = .ok (.iload 4, 2) := by decide +kernel
theorem dX1_fill_108 : decode cX1_fill 108 = .ok (.invokevirtual 80, 3) := by decide +kernel
theorem dX1_fill_111 : decode cX1_fill 111 = .ok (.i2l, 1) := by decide +kernel
theorem dX1_fill_112 : decode cX1_fill 112 = .ok (.lmul, 1) := by decide +kernel
theorem dX1_fill_113 : decode cX1_fill 113 = .ok (.goto 4, 3) := by decide +kernel
theorem dX1_fill_116 : decode cX1_fill 116 = .ok (.lconst 0, 1) := by decide +kernel
theorem dX1_fill_117 : decode cX1_fill 117 = .ok (.ladd, 1) := by decide +kernel
theorem dX1_fill_118 : decode cX1_fill 118 = .ok (.aload_n 0, 1) := by decide +kernel
theorem dX1_fill_119 : decode cX1_fill 119 = .ok (.getfield 17, 3) := by decide +kernel
theorem dX1_fill_122 : decode cX1_fill 122 = .ok (.bipush 40, 2) := by decide +kernel
theorem dX1_fill_124 : decode cX1_fill 124 = .ok (.iload 4, 2) := by decide +kernel
theorem dX1_fill_126 : decode cX1_fill 126 = .ok (.imul, 1) := by decide +kernel
theorem dX1_fill_127 : decode cX1_fill 127 = .ok (.iload 7, 2) := by decide +kernel
theorem dX1_fill_129 : decode cX1_fill 129 = .ok (.iadd, 1) := by decide +kernel
theorem dX1_fill_130 : decode cX1_fill 130 = .ok (.laload, 1) := by decide +kernel
theorem dX1_fill_131 : decode cX1_fill 131 = .ok (.ladd, 1) := by decide +kernel
theorem dX1_fill_132 : decode cX1_fill 132 = .ok (.iload 4, 2) := by decide +kernel
theorem dX1_fill_134 : decode cX1_fill 134 = .ok (.iload 7, 2) := by decide +kernel
theorem dX1_fill_136 : decode cX1_fill 136 = .ok (.invokevirtual 110, 3) := by decide +kernel
theorem dX1_fill_139 : decode cX1_fill 139 = .ok (.iinc 7 1, 3) := by decide +kernel
theorem dX1_fill_142 : decode cX1_fill 142 = .ok (.goto (-69), 3) := by decide +kernel
theorem dX1_fill_145 : decode cX1_fill 145 = .ok (.iinc 4 1, 3) := by decide +kernel
theorem dX1_fill_148 : decode cX1_fill 148 = .ok (.goto (-98), 3) := by decide +kernel
theorem dX1_fill_151 : decode cX1_fill 151 = .ok (.iinc 3 (-1), 3) := by decide +kernel
theorem dX1_fill_154 : decode cX1_fill 154 = .ok (.goto (-146), 3) := by decide +kernel
theorem dX1_fill_157 : decode cX1_fill 157 = .ok (.return_, 1) := by decide +kernel
set_option maxRecDepth 20000 in
theorem ggX1_cut_X1_mostInRow : GoodIn wsX1_cut wsX1_mostInRow := goodIn_r _ [14, 15, 16, 17, 18, 13, 19, 20, 21, 22, 23, 24, 25, 85, 86, 87, 88, 89, 90, 91, 92, 93, 94, 95, 96, 97, 98, 99, 100, 101] (by decide +kernel) (by decide +kernel)
set_option maxRecDepth 20000 in
theorem gX1_cut_X1_mostInRow : GoodIn wsX1_cut (wsV RX1 66 RX1 yX1_mostInRow wsX1_mostInRow) := goodIn_app (goodIn_of _ (by decide +kernel)) ggX1_cut_X1_mostInRow
set_option maxRecDepth 20000 in
theorem ggX1_cut_X1_from : GoodIn wsX1_cut wsX1_from := goodIn_r _ [29, 30, 31, 32, 13, 33, 15, 20, 21, 22, 23, 24, 25, 85, 86, 87, 88, 89, 90, 91, 92, 93, 94, 95, 96, 97, 98, 99, 100, 101] (by decide +kernel) (by decide +kernel)
set_option maxRecDepth 20000 in
theorem gX1_cut_X1_from : GoodIn wsX1_cut (wsV RX1 119 RX1 yX1_from wsX1_from) := goodIn_app (goodIn_of _ (by decide +kernel)) ggX1_cut_X1_from
set_option maxRecDepth 20000 in
theorem ggX1_cut_X1_until : GoodIn wsX1_cut wsX1_until := goodIn_r _ [37, 20, 30, 31, 32, 13, 33, 15, 21, 22, 23, 24, 25, 85, 86, 87, 88, 89, 90, 91, 92, 93, 94, 95, 96, 97, 98, 99, 100, 101] (by decide +kernel) (by decide +kernel)
set_option maxRecDepth 20000 in
theorem gX1_cut_X1_until : GoodIn wsX1_cut (wsV RX1 122 RX1 yX1_until wsX1_until) := goodIn_app (goodIn_of _ (by decide +kernel)) ggX1_cut_X1_until
set_option maxRecDepth 20000 in
theorem ggX1_cut_X1_fill : GoodIn wsX1_cut wsX1_fill := goodIn_r _ [41, 3, 42, 43, 44, 5, 45, 46, 47, 13, 48, 49, 50, 51, 52, 53, 54, 55, 56, 57, 58, 15, 10, 11, 12, 14, 16, 17, 18, 19, 20, 21, 22, 23, 24, 25, 59, 60, 61, 62, 63, 64, 65, 66, 67, 68, 69, 70, 30, 31, 32, 33, 71, 72, 73, 74, 75, 76, 77, 78, 79, 80, 81, 82, 83, 84, 8, 9, 85, 86, 87, 88, 89, 90, 91, 92, 93, 94, 95, 96, 97, 98, 99, 100, 101] (by decide +kernel) (by decide +kernel)
set_option maxRecDepth 20000 in
theorem gX1_cut_X1_fill : GoodIn wsX1_cut (wsV RX1 125 RX1 yX1_fill wsX1_fill) := goodIn_app (goodIn_of _ (by decide +kernel)) ggX1_cut_X1_fill
theorem dX1_cut_0 : decode cX1_cut 0 = .ok (.aload_n 0, 1) := by decide +kernel
theorem dX1_cut_1 : decode cX1_cut 1 = .ok (.iconst 0, 1) := by decide +kernel
theorem dX1_cut_2 : decode cX1_cut 2 = .ok (.putfield 55, 3) := by decide +kernel
theorem dX1_cut_5 : decode cX1_cut 5 = .ok (.iload_n 1, 1) := by decide +kernel
theorem dX1_cut_6 : decode cX1_cut 6 = .ok (.iconst 1, 1) := by decide +kernel
theorem dX1_cut_7 : decode cX1_cut 7 = .ok (.if_icmp .lt 9, 3) := by decide +kernel
theorem dX1_cut_10 : decode cX1_cut 10 = .ok (.iload_n 1, 1) := by decide +kernel
theorem dX1_cut_11 : decode cX1_cut 11 = .ok (.bipush 40, 2) := by decide +kernel
theorem dX1_cut_13 : decode cX1_cut 13 = .ok (.if_icmp .le 5, 3) := by decide +kernel
theorem dX1_cut_16 : decode cX1_cut 16 = .ok (.iconst (-1), 1) := by decide +kernel
theorem dX1_cut_17 : decode cX1_cut 17 = .ok (.ireturn, 1) := by decide +kernel
theorem dX1_cut_18 : decode cX1_cut 18 = .ok (.aload_n 0, 1) := by decide +kernel
theorem dX1_cut_19 : decode cX1_cut 19 = .ok (.iconst 0, 1) := by decide +kernel
theorem dX1_cut_20 : decode cX1_cut 20 = .ok (.putfield 116, 3) := by decide +kernel
theorem dX1_cut_23 : decode cX1_cut 23 = .ok (.aload_n 0, 1) := by decide +kernel
theorem dX1_cut_24 : decode cX1_cut 24 = .ok (.invokevirtual 66, 3) := by decide +kernel
theorem dX1_cut_27 : decode cX1_cut 27 = .ok (.ifCond .ne 5, 3) := by decide +kernel
theorem dX1_cut_30 : decode cX1_cut 30 = .ok (.iconst 0, 1) := by decide +kernel
theorem dX1_cut_31 : decode cX1_cut 31 = .ok (.ireturn, 1) := by decide +kernel
theorem dX1_cut_32 : decode cX1_cut 32 = .ok (.aload_n 0, 1) := by decide +kernel
theorem dX1_cut_33 : decode cX1_cut 33 = .ok (.invokevirtual 119, 3) := by decide +kernel
theorem dX1_cut_36 : decode cX1_cut 36 = .ok (.istore_n 2, 1) := by decide +kernel
theorem dX1_cut_37 : decode cX1_cut 37 = .ok (.aload_n 0, 1) := by decide +kernel
theorem dX1_cut_38 : decode cX1_cut 38 = .ok (.iload_n 2, 1) := by decide +kernel
theorem dX1_cut_39 : decode cX1_cut 39 = .ok (.aload_n 0, 1) := by decide +kernel
theorem dX1_cut_40 : decode cX1_cut 40 = .ok (.invokevirtual 122, 3) := by decide +kernel
theorem dX1_cut_43 : decode cX1_cut 43 = .ok (.invokevirtual 125, 3) := by decide +kernel
theorem dX1_cut_46 : decode cX1_cut 46 = .ok (.aload_n 0, 1) := by decide +kernel
theorem dX1_cut_47 : decode cX1_cut 47 = .ok (.aload_n 0, 1) := by decide +kernel
theorem dX1_cut_48 : decode cX1_cut 48 = .ok (.getfield 13, 3) := by decide +kernel
theorem dX1_cut_51 : decode cX1_cut 51 = .ok (.iload_n 2, 1) := by decide +kernel
theorem dX1_cut_52 : decode cX1_cut 52 = .ok (.iaload, 1) := by decide +kernel
theorem dX1_cut_53 : decode cX1_cut 53 = .ok (.iload_n 1, 1) := by decide +kernel
theorem dX1_cut_54 : decode cX1_cut 54 = .ok (.if_icmp .ge 12, 3) := by decide +kernel
theorem dX1_cut_57 : decode cX1_cut 57 = .ok (.aload_n 0, 1) := by decide +kernel
theorem dX1_cut_58 : decode cX1_cut 58 = .ok (.getfield 13, 3) := by decide +kernel
theorem dX1_cut_61 : decode cX1_cut 61 = .ok (.iload_n 2, 1) := by decide +kernel
theorem dX1_cut_62 : decode cX1_cut 62 = .ok (.iaload, 1) := by decide +kernel
theorem dX1_cut_63 : decode cX1_cut 63 = .ok (.goto 4, 3) := by decide +kernel
theorem dX1_cut_66 : decode cX1_cut 66 = .ok (.iload_n 1, 1) := by decide +kernel
theorem dX1_cut_67 : decode cX1_cut 67 = .ok (.putfield 116, 3) := by decide +kernel
theorem dX1_cut_70 : decode cX1_cut 70 = .ok (.iconst 0, 1) := by decide +kernel
theorem dX1_cut_71 : decode cX1_cut 71 = .ok (.istore_n 3, 1) := by decide +kernel
theorem dX1_cut_72 : decode cX1_cut 72 = .ok (.iload_n 3, 1) := by decide +kernel
theorem dX1_cut_73 : decode cX1_cut 73 = .ok (.aload_n 0, 1) := by decide +kernel
theorem dX1_cut_74 : decode cX1_cut 74 = .ok (.getfield 116, 3) := by decide +kernel
theorem dX1_cut_77 : decode cX1_cut 77 = .ok (.if_icmp .ge 110, 3) := by decide +kernel
theorem dX1_cut_80 : decode cX1_cut 80 = .ok (.aload_n 0, 1) := by decide +kernel
theorem dX1_cut_81 : decode cX1_cut 81 = .ok (.getfield 27, 3) := by decide +kernel
theorem dX1_cut_84 : decode cX1_cut 84 = .ok (.iload_n 3, 1) := by decide +kernel
theorem dX1_cut_85 : decode cX1_cut 85 = .ok (.aload_n 0, 1) := by decide +kernel
theorem dX1_cut_86 : decode cX1_cut 86 = .ok (.getfield 17, 3) := by decide +kernel
theorem dX1_cut_89 : decode cX1_cut 89 = .ok (.bipush 40, 2) := by decide +kernel
theorem dX1_cut_91 : decode cX1_cut 91 = .ok (.iload_n 2, 1) := by decide +kernel
theorem dX1_cut_92 : decode cX1_cut 92 = .ok (.imul, 1) := by decide +kernel
theorem dX1_cut_93 : decode cX1_cut 93 = .ok (.iload_n 3, 1) := by decide +kernel
theorem dX1_cut_94 : decode cX1_cut 94 = .ok (.iadd, 1) := by decide +kernel
theorem dX1_cut_95 : decode cX1_cut 95 = .ok (.laload, 1) := by decide +kernel
theorem dX1_cut_96 : decode cX1_cut 96 = .ok (.lastore, 1) := by decide +kernel
theorem dX1_cut_97 : decode cX1_cut 97 = .ok (.aload_n 0, 1) := by decide +kernel
theorem dX1_cut_98 : decode cX1_cut 98 = .ok (.getfield 30, 3) := by decide +kernel
theorem dX1_cut_101 : decode cX1_cut 101 = .ok (.iload_n 3, 1) := by decide +kernel
theorem dX1_cut_102 : decode cX1_cut 102 = .ok (.iconst 0, 1) := by decide +kernel
theorem dX1_cut_103 : decode cX1_cut 103 = .ok (.iastore, 1) := by decide +kernel
theorem dX1_cut_104 : decode cX1_cut 104 = .ok (.iload_n 2, 1) := by decide +kernel
theorem dX1_cut_105 : decode cX1_cut 105 = .ok (.istore 4, 2) := by decide +kernel
theorem dX1_cut_107 : decode cX1_cut 107 = .ok (.iload_n 3, 1) := by decide +kernel
theorem dX1_cut_108 : decode cX1_cut 108 = .ok (.istore 5, 2) := by decide +kernel
theorem dX1_cut_110 : decode cX1_cut 110 = .ok (.iload 4, 2) := by decide +kernel
theorem dX1_cut_112 : decode cX1_cut 112 = .ok (.iconst (-1), 1) := by decide +kernel
theorem dX1_cut_113 : decode cX1_cut 113 = .ok (.if_icmp .eq 68, 3) := by decide +kernel
theorem dX1_cut_116 : decode cX1_cut 116 = .ok (.aload_n 0, 1) := by decide +kernel
theorem dX1_cut_117 : decode cX1_cut 117 = .ok (.getfield 33, 3) := by decide +kernel
theorem dX1_cut_120 : decode cX1_cut 120 = .ok (.bipush 62, 2) := by decide +kernel
theorem dX1_cut_122 : decode cX1_cut 122 = .ok (.iload_n 3, 1) := by decide +kernel
theorem dX1_cut_123 : decode cX1_cut 123 = .ok (.imul, 1) := by decide +kernel
theorem dX1_cut_124 : decode cX1_cut 124 = .ok (.aload_n 0, 1) := by decide +kernel
theorem dX1_cut_125 : decode cX1_cut 125 = .ok (.getfield 30, 3) := by decide +kernel
theorem dX1_cut_128 : decode cX1_cut 128 = .ok (.iload_n 3, 1) := by decide +kernel
theorem dX1_cut_129 : decode cX1_cut 129 = .ok (.iaload, 1) := by decide +kernel
theorem dX1_cut_130 : decode cX1_cut 130 = .ok (.iadd, 1) := by decide +kernel
theorem dX1_cut_131 : decode cX1_cut 131 = .ok (.iload 4, 2) := by decide +kernel
theorem dX1_cut_133 : decode cX1_cut 133 = .ok (.iastore, 1) := by decide +kernel
theorem dX1_cut_134 : decode cX1_cut 134 = .ok (.aload_n 0, 1) := by decide +kernel
theorem dX1_cut_135 : decode cX1_cut 135 = .ok (.getfield 30, 3) := by decide +kernel
theorem dX1_cut_138 : decode cX1_cut 138 = .ok (.iload_n 3, 1) := by decide +kernel
theorem dX1_cut_139 : decode cX1_cut 139 = .ok (.dup2, 1) := by decide +kernel
theorem dX1_cut_140 : decode cX1_cut 140 = .ok (.iaload, 1) := by decide +kernel
theorem dX1_cut_141 : decode cX1_cut 141 = .ok (.iconst 1, 1) := by decide +kernel
theorem dX1_cut_142 : decode cX1_cut 142 = .ok (.iadd, 1) := by decide +kernel
theorem dX1_cut_143 : decode cX1_cut 143 = .ok (.iastore, 1) := by decide +kernel
theorem dX1_cut_144 : decode cX1_cut 144 = .ok (.aload_n 0, 1) := by decide +kernel
theorem dX1_cut_145 : decode cX1_cut 145 = .ok (.getfield 21, 3) := by decide +kernel
theorem dX1_cut_148 : decode cX1_cut 148 = .ok (.bipush 40, 2) := by decide +kernel
theorem dX1_cut_150 : decode cX1_cut 150 = .ok (.iload 4, 2) := by decide +kernel
theorem dX1_cut_152 : decode cX1_cut 152 = .ok (.imul, 1) := by decide +kernel
theorem dX1_cut_153 : decode cX1_cut 153 = .ok (.iload 5, 2) := by decide +kernel
theorem dX1_cut_155 : decode cX1_cut 155 = .ok (.iadd, 1) := by decide +kernel
theorem dX1_cut_156 : decode cX1_cut 156 = .ok (.iaload, 1) := by decide +kernel
theorem dX1_cut_157 : decode cX1_cut 157 = .ok (.istore 6, 2) := by decide +kernel
theorem dX1_cut_159 : decode cX1_cut 159 = .ok (.aload_n 0, 1) := by decide +kernel
theorem dX1_cut_160 : decode cX1_cut 160 = .ok (.getfield 24, 3) := by decide +kernel
theorem dX1_cut_163 : decode cX1_cut 163 = .ok (.bipush 40, 2) := by decide +kernel
theorem dX1_cut_165 : decode cX1_cut 165 = .ok (.iload 4, 2) := by decide +kernel
theorem dX1_cut_167 : decode cX1_cut 167 = .ok (.imul, 1) := by decide +kernel
theorem dX1_cut_168 : decode cX1_cut 168 = .ok (.iload 5, 2) := by decide +kernel
theorem dX1_cut_170 : decode cX1_cut 170 = .ok (.iadd, 1) := by decide +kernel
theorem dX1_cut_171 : decode cX1_cut 171 = .ok (.iaload, 1) := by decide +kernel
theorem dX1_cut_172 : decode cX1_cut 172 = .ok (.istore 5, 2) := by decide +kernel
theorem dX1_cut_174 : decode cX1_cut 174 = .ok (.iload 6, 2) := by decide +kernel
theorem dX1_cut_176 : decode cX1_cut 176 = .ok (.istore 4, 2) := by decide +kernel
theorem dX1_cut_178 : decode cX1_cut 178 = .ok (.goto (-68), 3) := by decide +kernel
theorem dX1_cut_181 : decode cX1_cut 181 = .ok (.iinc 3 1, 3) := by decide +kernel
theorem dX1_cut_184 : decode cX1_cut 184 = .ok (.goto (-112), 3) := by decide +kernel
theorem dX1_cut_187 : decode cX1_cut 187 = .ok (.aload_n 0, 1) := by decide +kernel
theorem dX1_cut_188 : decode cX1_cut 188 = .ok (.getfield 116, 3) := by decide +kernel
theorem dX1_cut_191 : decode cX1_cut 191 = .ok (.ireturn, 1) := by decide +kernel
theorem dX1_way_0 : decode cX1_way 0 = .ok (.aload_n 0, 1) := by decide +kernel
theorem dX1_way_1 : decode cX1_way 1 = .ok (.iconst 0, 1) := by decide +kernel
theorem dX1_way_2 : decode cX1_way 2 = .ok (.putfield 55, 3) := by decide +kernel
theorem dX1_way_5 : decode cX1_way 5 = .ok (.iload_n 1, 1) := by decide +kernel
theorem dX1_way_6 : decode cX1_way 6 = .ok (.ifCond .lt 25, 3) := by decide +kernel
theorem dX1_way_9 : decode cX1_way 9 = .ok (.iload_n 1, 1) := by decide +kernel
theorem dX1_way_10 : decode cX1_way 10 = .ok (.aload_n 0, 1) := by decide +kernel
theorem dX1_way_11 : decode cX1_way 11 = .ok (.getfield 116, 3) := by decide +kernel
theorem dX1_way_14 : decode cX1_way 14 = .ok (.if_icmp .ge 17, 3) := by decide +kernel
theorem dX1_way_17 : decode cX1_way 17 = .ok (.iload_n 2, 1) := by decide +kernel
theorem dX1_way_18 : decode cX1_way 18 = .ok (.ifCond .lt 13, 3) := by decide +kernel
theorem dX1_way_21 : decode cX1_way 21 = .ok (.iload_n 2, 1) := by decide +kernel
theorem dX1_way_22 : decode cX1_way 22 = .ok (.aload_n 0, 1) := by decide +kernel
theorem dX1_way_23 : decode cX1_way 23 = .ok (.getfield 30, 3) := by decide +kernel
theorem dX1_way_26 : decode cX1_way 26 = .ok (.iload_n 1, 1) := by decide +kernel
theorem dX1_way_27 : decode cX1_way 27 = .ok (.iaload, 1) := by decide +kernel
theorem dX1_way_28 : decode cX1_way 28 = .ok (.if_icmp .lt 7, 3) := by decide +kernel
theorem dX1_way_31 : decode cX1_way 31 = .ok (.iconst (-1), 1) := by decide +kernel
theorem dX1_way_32 : decode cX1_way 32 = .ok (.goto 14, 3) := by decide +kernel
theorem dX1_way_35 : decode cX1_way 35 = .ok (.aload_n 0, 1) := by decide +kernel
theorem dX1_way_36 : decode cX1_way 36 = .ok (.getfield 33, 3) := by decide +kernel
theorem dX1_way_39 : decode cX1_way 39 = .ok (.bipush 62, 2) := by decide +kernel
theorem dX1_way_41 : decode cX1_way 41 = .ok (.iload_n 1, 1) := by decide +kernel
theorem dX1_way_42 : decode cX1_way 42 = .ok (.imul, 1) := by decide +kernel
theorem dX1_way_43 : decode cX1_way 43 = .ok (.iload_n 2, 1) := by decide +kernel
theorem dX1_way_44 : decode cX1_way 44 = .ok (.iadd, 1) := by decide +kernel
theorem dX1_way_45 : decode cX1_way 45 = .ok (.iaload, 1) := by decide +kernel
theorem dX1_way_46 : decode cX1_way 46 = .ok (.ireturn, 1) := by decide +kernel
theorem dX1_cost_0 : decode cX1_cost 0 = .ok (.aload_n 0, 1) := by decide +kernel
theorem dX1_cost_1 : decode cX1_cost 1 = .ok (.iconst 0, 1) := by decide +kernel
theorem dX1_cost_2 : decode cX1_cost 2 = .ok (.putfield 55, 3) := by decide +kernel
theorem dX1_cost_5 : decode cX1_cost 5 = .ok (.iload_n 1, 1) := by decide +kernel
theorem dX1_cost_6 : decode cX1_cost 6 = .ok (.ifCond .lt 11, 3) := by decide +kernel
theorem dX1_cost_9 : decode cX1_cost 9 = .ok (.iload_n 1, 1) := by decide +kernel
theorem dX1_cost_10 : decode cX1_cost 10 = .ok (.aload_n 0, 1) := by decide +kernel
theorem dX1_cost_11 : decode cX1_cost 11 = .ok (.getfield 116, 3) := by decide +kernel
theorem dX1_cost_14 : decode cX1_cost 14 = .ok (.if_icmp .lt 9, 3) := by decide +kernel
theorem dX1_cost_17 : decode cX1_cost 17 = .ok (.ldc2_w 83, 3) := by decide +kernel
theorem dX1_cost_20 : decode cX1_cost 20 = .ok (.goto 9, 3) := by decide +kernel
theorem dX1_cost_23 : decode cX1_cost 23 = .ok (.aload_n 0, 1) := by decide +kernel
theorem dX1_cost_24 : decode cX1_cost 24 = .ok (.getfield 27, 3) := by decide +kernel
theorem dX1_cost_27 : decode cX1_cost 27 = .ok (.iload_n 1, 1) := by decide +kernel
theorem dX1_cost_28 : decode cX1_cost 28 = .ok (.laload, 1) := by decide +kernel
theorem dX1_cost_29 : decode cX1_cost 29 = .ok (.lreturn, 1) := by decide +kernel
theorem dX1_signs_0 : decode cX1_signs 0 = .ok (.aload_n 0, 1) := by decide +kernel
theorem dX1_signs_1 : decode cX1_signs 1 = .ok (.iconst 0, 1) := by decide +kernel
theorem dX1_signs_2 : decode cX1_signs 2 = .ok (.putfield 55, 3) := by decide +kernel
theorem dX1_signs_5 : decode cX1_signs 5 = .ok (.iload_n 1, 1) := by decide +kernel
theorem dX1_signs_6 : decode cX1_signs 6 = .ok (.ifCond .lt 11, 3) := by decide +kernel
theorem dX1_signs_9 : decode cX1_signs 9 = .ok (.iload_n 1, 1) := by decide +kernel
theorem dX1_signs_10 : decode cX1_signs 10 = .ok (.aload_n 0, 1) := by decide +kernel
theorem dX1_signs_11 : decode cX1_signs 11 = .ok (.getfield 116, 3) := by decide +kernel
theorem dX1_signs_14 : decode cX1_signs 14 = .ok (.if_icmp .lt 7, 3) := by decide +kernel
theorem dX1_signs_17 : decode cX1_signs 17 = .ok (.iconst (-1), 1) := by decide +kernel
theorem dX1_signs_18 : decode cX1_signs 18 = .ok (.goto 11, 3) := by decide +kernel
theorem dX1_signs_21 : decode cX1_signs 21 = .ok (.aload_n 0, 1) := by decide +kernel
theorem dX1_signs_22 : decode cX1_signs 22 = .ok (.getfield 30, 3) := by decide +kernel
theorem dX1_signs_25 : decode cX1_signs 25 = .ok (.iload_n 1, 1) := by decide +kernel
theorem dX1_signs_26 : decode cX1_signs 26 = .ok (.iaload, 1) := by decide +kernel
theorem dX1_signs_27 : decode cX1_signs 27 = .ok (.iconst 1, 1) := by decide +kernel
theorem dX1_signs_28 : decode cX1_signs 28 = .ok (.isub, 1) := by decide +kernel
theorem dX1_signs_29 : decode cX1_signs 29 = .ok (.ireturn, 1) := by decide +kernel
set_option maxRecDepth 20000 in
theorem ggX1_base_X1_mostInRow : GoodIn wsX1_base wsX1_mostInRow := goodIn_r _ [6, 7, 8, 9, 10, 5, 11, 12, 13, 14, 15, 16, 17, 50, 51, 52, 53, 54, 55, 56, 57, 58, 59, 60, 61, 62, 63, 64, 65, 66] (by decide +kernel) (by decide +kernel)
set_option maxRecDepth 20000 in
theorem gX1_base_X1_mostInRow : GoodIn wsX1_base (wsV RX1 66 RX1 yX1_mostInRow wsX1_mostInRow) := goodIn_app (goodIn_of _ (by decide +kernel)) ggX1_base_X1_mostInRow
set_option maxRecDepth 20000 in
theorem ggX1_base_X1_middle : GoodIn wsX1_base wsX1_middle := goodIn_r _ [21, 2, 3, 4, 5, 6, 7, 8, 9, 10, 11, 12, 13, 14, 15, 16, 17, 50, 51, 52, 53, 54, 55, 56, 57, 58, 59, 60, 61, 62, 63, 64, 65, 66] (by decide +kernel) (by decide +kernel)
set_option maxRecDepth 20000 in
theorem gX1_base_X1_middle : GoodIn wsX1_base (wsV RX1 77 RX1 yX1_middle wsX1_middle) := goodIn_app (goodIn_of _ (by decide +kernel)) ggX1_base_X1_middle
set_option maxRecDepth 20000 in
theorem ggX1_base_X1_baseline : GoodIn wsX1_base wsX1_baseline := goodIn_r _ [25, 7, 2, 3, 4, 5, 6, 8, 9, 10, 11, 12, 13, 14, 15, 16, 17, 50, 51, 52, 53, 54, 55, 56, 57, 58, 59, 60, 61, 62, 63, 64, 65, 66] (by decide +kernel) (by decide +kernel)
set_option maxRecDepth 20000 in
theorem gX1_base_X1_baseline : GoodIn wsX1_base (wsV RX1 74 RX1 yX1_baseline wsX1_baseline) := goodIn_app (goodIn_of _ (by decide +kernel)) ggX1_base_X1_baseline
set_option maxRecDepth 20000 in
theorem ggX1_base_X1_due : GoodIn wsX1_base wsX1_due := goodIn_r _ [29, 22, 23, 24, 5, 25, 7, 2, 3, 4, 6, 8, 9, 10, 11, 12, 13, 14, 15, 16, 17, 18, 19, 20, 21, 50, 51, 52, 53, 54, 55, 56, 57, 58, 59, 60, 61, 62, 63, 64, 65, 66] (by decide +kernel) (by decide +kernel)
set_option maxRecDepth 20000 in
theorem gX1_base_X1_due : GoodIn wsX1_base (wsV RX1 96 RX1 yX1_due wsX1_due) := goodIn_app (goodIn_of _ (by decide +kernel)) ggX1_base_X1_due
set_option maxRecDepth 20000 in
theorem ggX1_base_X1_from : GoodIn wsX1_base wsX1_from := goodIn_r _ [33, 34, 35, 36, 5, 37, 7, 12, 13, 14, 15, 16, 17, 50, 51, 52, 53, 54, 55, 56, 57, 58, 59, 60, 61, 62, 63, 64, 65, 66] (by decide +kernel) (by decide +kernel)
set_option maxRecDepth 20000 in
theorem gX1_base_X1_from : GoodIn wsX1_base (wsV RX1 119 RX1 yX1_from wsX1_from) := goodIn_app (goodIn_of _ (by decide +kernel)) ggX1_base_X1_from
set_option maxRecDepth 20000 in
theorem ggX1_base_X1_until : GoodIn wsX1_base wsX1_until := goodIn_r _ [41, 12, 34, 35, 36, 5, 37, 7, 13, 14, 15, 16, 17, 50, 51, 52, 53, 54, 55, 56, 57, 58, 59, 60, 61, 62, 63, 64, 65, 66] (by decide +kernel) (by decide +kernel)
set_option maxRecDepth 20000 in
theorem gX1_base_X1_until : GoodIn wsX1_base (wsV RX1 122 RX1 yX1_until wsX1_until) := goodIn_app (goodIn_of _ (by decide +kernel)) ggX1_base_X1_until
set_option maxRecDepth 20000 in
theorem ggX1_base_X1_mayCut : GoodIn wsX1_base wsX1_mayCut := goodIn_r _ [45, 46, 47, 48, 5, 49, 7, 13, 14, 15, 16, 17, 34, 35, 36, 37, 12, 50, 51, 52, 53, 54, 55, 56, 57, 58, 59, 60, 61, 62, 63, 64, 65, 66] (by decide +kernel) (by decide +kernel)
set_option maxRecDepth 20000 in
theorem gX1_base_X1_mayCut : GoodIn wsX1_base (wsV RX1 99 RX1 yX1_mayCut wsX1_mayCut) := goodIn_app (goodIn_of _ (by decide +kernel)) ggX1_base_X1_mayCut
theorem dX1_base_0 : decode cX1_base 0 = .ok (.aload_n 0, 1) := by decide +kernel
theorem dX1_base_1 : decode cX1_base 1 = .ok (.iconst 0, 1) := by decide +kernel
theorem dX1_base_2 : decode cX1_base 2 = .ok (.putfield 55, 3) := by decide +kernel
theorem dX1_base_5 : decode cX1_base 5 = .ok (.aload_n 0, 1) := by decide +kernel
theorem dX1_base_6 : decode cX1_base 6 = .ok (.invokevirtual 66, 3) := by decide +kernel
theorem dX1_base_9 : decode cX1_base 9 = .ok (.ifCond .eq 12, 3) := by decide +kernel
theorem dX1_base_12 : decode cX1_base 12 = .ok (.iload_n 1, 1) := by decide +kernel
theorem dX1_base_13 : decode cX1_base 13 = .ok (.ifCond .lt 8, 3) := by decide +kernel
theorem dX1_base_16 : decode cX1_base 16 = .ok (.iload_n 1, 1) := by decide +kernel
theorem dX1_base_17 : decode cX1_base 17 = .ok (.iconst 5, 1) := by decide +kernel
theorem dX1_base_18 : decode cX1_base 18 = .ok (.if_icmp .le 5, 3) := by decide +kernel
theorem dX1_base_21 : decode cX1_base 21 = .ok (.iconst (-1), 1) := by decide +kernel
theorem dX1_base_22 : decode cX1_base 22 = .ok (.ireturn, 1) := by decide +kernel
theorem dX1_base_23 : decode cX1_base 23 = .ok (.iload_n 1, 1) := by decide +kernel
theorem dX1_base_24 : decode cX1_base 24 = .ok (.iconst 5, 1) := by decide +kernel
theorem dX1_base_25 : decode cX1_base 25 = .ok (.if_icmp .ge 55, 3) := by decide +kernel
theorem dX1_base_28 : decode cX1_base 28 = .ok (.iload_n 1, 1) := by decide +kernel
theorem dX1_base_29 : decode cX1_base 29 = .ok (.ifCond .ne 10, 3) := by decide +kernel
theorem dX1_base_32 : decode cX1_base 32 = .ok (.aload_n 0, 1) := by decide +kernel
theorem dX1_base_33 : decode cX1_base 33 = .ok (.invokevirtual 77, 3) := by decide +kernel
theorem dX1_base_36 : decode cX1_base 36 = .ok (.goto 43, 3) := by decide +kernel
theorem dX1_base_39 : decode cX1_base 39 = .ok (.iload_n 1, 1) := by decide +kernel
theorem dX1_base_40 : decode cX1_base 40 = .ok (.iconst 1, 1) := by decide +kernel
theorem dX1_base_41 : decode cX1_base 41 = .ok (.if_icmp .ne 10, 3) := by decide +kernel
theorem dX1_base_44 : decode cX1_base 44 = .ok (.aload_n 0, 1) := by decide +kernel
theorem dX1_base_45 : decode cX1_base 45 = .ok (.invokevirtual 74, 3) := by decide +kernel
theorem dX1_base_48 : decode cX1_base 48 = .ok (.goto 31, 3) := by decide +kernel
theorem dX1_base_51 : decode cX1_base 51 = .ok (.iload_n 1, 1) := by decide +kernel
theorem dX1_base_52 : decode cX1_base 52 = .ok (.iconst 2, 1) := by decide +kernel
theorem dX1_base_53 : decode cX1_base 53 = .ok (.if_icmp .ne 10, 3) := by decide +kernel
theorem dX1_base_56 : decode cX1_base 56 = .ok (.aload_n 0, 1) := by decide +kernel
theorem dX1_base_57 : decode cX1_base 57 = .ok (.invokevirtual 96, 3) := by decide +kernel
theorem dX1_base_60 : decode cX1_base 60 = .ok (.goto 19, 3) := by decide +kernel
theorem dX1_base_63 : decode cX1_base 63 = .ok (.iload_n 1, 1) := by decide +kernel
theorem dX1_base_64 : decode cX1_base 64 = .ok (.iconst 3, 1) := by decide +kernel
theorem dX1_base_65 : decode cX1_base 65 = .ok (.if_icmp .ne 10, 3) := by decide +kernel
theorem dX1_base_68 : decode cX1_base 68 = .ok (.aload_n 0, 1) := by decide +kernel
theorem dX1_base_69 : decode cX1_base 69 = .ok (.invokevirtual 119, 3) := by decide +kernel
theorem dX1_base_72 : decode cX1_base 72 = .ok (.goto 7, 3) := by decide +kernel
theorem dX1_base_75 : decode cX1_base 75 = .ok (.aload_n 0, 1) := by decide +kernel
theorem dX1_base_76 : decode cX1_base 76 = .ok (.invokevirtual 122, 3) := by decide +kernel
theorem dX1_base_79 : decode cX1_base 79 = .ok (.ireturn, 1) := by decide +kernel
theorem dX1_base_80 : decode cX1_base 80 = .ok (.iconst 0, 1) := by decide +kernel
theorem dX1_base_81 : decode cX1_base 81 = .ok (.istore_n 2, 1) := by decide +kernel
theorem dX1_base_82 : decode cX1_base 82 = .ok (.aload_n 0, 1) := by decide +kernel
theorem dX1_base_83 : decode cX1_base 83 = .ok (.invokevirtual 119, 3) := by decide +kernel
theorem dX1_base_86 : decode cX1_base 86 = .ok (.iconst 1, 1) := by decide +kernel
theorem dX1_base_87 : decode cX1_base 87 = .ok (.iadd, 1) := by decide +kernel
theorem dX1_base_88 : decode cX1_base 88 = .ok (.istore_n 3, 1) := by decide +kernel
theorem dX1_base_89 : decode cX1_base 89 = .ok (.iload_n 3, 1) := by decide +kernel
theorem dX1_base_90 : decode cX1_base 90 = .ok (.aload_n 0, 1) := by decide +kernel
theorem dX1_base_91 : decode cX1_base 91 = .ok (.invokevirtual 122, 3) := by decide +kernel
theorem dX1_base_94 : decode cX1_base 94 = .ok (.if_icmp .ge 25, 3) := by decide +kernel
theorem dX1_base_97 : decode cX1_base 97 = .ok (.aload_n 0, 1) := by decide +kernel
theorem dX1_base_98 : decode cX1_base 98 = .ok (.iload_n 3, 1) := by decide +kernel
theorem dX1_base_99 : decode cX1_base 99 = .ok (.invokevirtual 99, 3) := by decide +kernel
theorem dX1_base_102 : decode cX1_base 102 = .ok (.ifCond .eq 9, 3) := by decide +kernel
theorem dX1_base_105 : decode cX1_base 105 = .ok (.iload_n 2, 1) := by decide +kernel
theorem dX1_base_106 : decode cX1_base 106 = .ok (.iconst 1, 1) := by decide +kernel
theorem dX1_base_107 : decode cX1_base 107 = .ok (.iadd, 1) := by decide +kernel
theorem dX1_base_108 : decode cX1_base 108 = .ok (.goto 4, 3) := by decide +kernel
theorem dX1_base_111 : decode cX1_base 111 = .ok (.iload_n 2, 1) := by decide +kernel
theorem dX1_base_112 : decode cX1_base 112 = .ok (.istore_n 2, 1) := by decide +kernel
theorem dX1_base_113 : decode cX1_base 113 = .ok (.iinc 3 1, 3) := by decide +kernel
theorem dX1_base_116 : decode cX1_base 116 = .ok (.goto (-27), 3) := by decide +kernel
theorem dX1_base_119 : decode cX1_base 119 = .ok (.iload_n 2, 1) := by decide +kernel
theorem dX1_base_120 : decode cX1_base 120 = .ok (.ireturn, 1) := by decide +kernel
set_option maxRecDepth 20000 in
theorem ggX1_columns_X1_isDark : GoodIn wsX1_columns wsX1_isDark := goodIn_r _ [7, 8, 9, 10, 11, 12, 13, 14, 15, 16, 17, 18, 19, 20, 21, 22, 23, 24, 25] (by decide +kernel) (by decide +kernel)
set_option maxRecDepth 20000 in
theorem gX1_columns_X1_isDark : GoodIn wsX1_columns (wsV RX1 58 RX1 yX1_isDark wsX1_isDark) := goodIn_app (goodIn_of _ (by decide +kernel)) ggX1_columns_X1_isDark
theorem dX1_columns_0 : decode cX1_columns 0 = .ok (.iconst 0, 1) := by decide +kernel
theorem dX1_columns_1 : decode cX1_columns 1 = .ok (.istore_n 2, 1) := by decide +kernel
theorem dX1_columns_2 : decode cX1_columns 2 = .ok (.bipush (-60), 2) := by decide +kernel
theorem dX1_columns_4 : decode cX1_columns 4 = .ok (.istore_n 3, 1) := by decide +kernel
theorem dX1_columns_5 : decode cX1_columns 5 = .ok (.iload_n 3, 1) := by decide +kernel
theorem dX1_columns_6 : decode cX1_columns 6 = .ok (.bipush 120, 2) := by decide +kernel
theorem dX1_columns_8 : decode cX1_columns 8 = .ok (.if_icmp .ge 123, 3) := by decide +kernel
theorem dX1_columns_11 : decode cX1_columns 11 = .ok (.iconst 0, 1) := by decide +kernel
theorem dX1_columns_12 : decode cX1_columns 12 = .ok (.istore 4, 2) := by decide +kernel
theorem dX1_columns_14 : decode cX1_columns 14 = .ok (.iconst 0, 1) := by decide +kernel
theorem dX1_columns_15 : decode cX1_columns 15 = .ok (.istore 5, 2) := by decide +kernel
theorem dX1_columns_17 : decode cX1_columns 17 = .ok (.iload 5, 2) := by decide +kernel
theorem dX1_columns_19 : decode cX1_columns 19 = .ok (.aload_n 0, 1) := by decide +kernel
theorem dX1_columns_20 : decode cX1_columns 20 = .ok (.getfield 52, 3) := by decide +kernel
theorem dX1_columns_23 : decode cX1_columns 23 = .ok (.if_icmp .ge 89, 3) := by decide +kernel
theorem dX1_columns_26 : decode cX1_columns 26 = .ok (.iload 4, 2) := by decide +kernel
theorem dX1_columns_28 : decode cX1_columns 28 = .ok (.ifCond .ne 84, 3) := by decide +kernel
theorem dX1_columns_31 : decode cX1_columns 31 = .ok (.iload_n 1, 1) := by decide +kernel
theorem dX1_columns_32 : decode cX1_columns 32 = .ok (.aload_n 0, 1) := by decide +kernel
theorem dX1_columns_33 : decode cX1_columns 33 = .ok (.getfield 52, 3) := by decide +kernel
theorem dX1_columns_36 : decode cX1_columns 36 = .ok (.iconst 1, 1) := by decide +kernel
theorem dX1_columns_37 : decode cX1_columns 37 = .ok (.isub, 1) := by decide +kernel
theorem dX1_columns_38 : decode cX1_columns 38 = .ok (.iload 5, 2) := by decide +kernel
theorem dX1_columns_40 : decode cX1_columns 40 = .ok (.isub, 1) := by decide +kernel
theorem dX1_columns_41 : decode cX1_columns 41 = .ok (.imul, 1) := by decide +kernel
theorem dX1_columns_42 : decode cX1_columns 42 = .ok (.istore 6, 2) := by decide +kernel
theorem dX1_columns_44 : decode cX1_columns 44 = .ok (.iload 6, 2) := by decide +kernel
theorem dX1_columns_46 : decode cX1_columns 46 = .ok (.ifCond .lt 11, 3) := by decide +kernel
theorem dX1_columns_49 : decode cX1_columns 49 = .ok (.iload 6, 2) := by decide +kernel
theorem dX1_columns_51 : decode cX1_columns 51 = .ok (.bipush 8, 2) := by decide +kernel
theorem dX1_columns_53 : decode cX1_columns 53 = .ok (.idiv, 1) := by decide +kernel
theorem dX1_columns_54 : decode cX1_columns 54 = .ok (.goto 12, 3) := by decide +kernel
theorem dX1_columns_57 : decode cX1_columns 57 = .ok (.bipush 7, 2) := by decide +kernel
theorem dX1_columns_59 : decode cX1_columns 59 = .ok (.iload 6, 2) := by decide +kernel
theorem dX1_columns_61 : decode cX1_columns 61 = .ok (.isub, 1) := by decide +kernel
theorem dX1_columns_62 : decode cX1_columns 62 = .ok (.bipush 8, 2) := by decide +kernel
theorem dX1_columns_64 : decode cX1_columns 64 = .ok (.idiv, 1) := by decide +kernel
theorem dX1_columns_65 : decode cX1_columns 65 = .ok (.ineg, 1) := by decide +kernel
theorem dX1_columns_66 : decode cX1_columns 66 = .ok (.istore 7, 2) := by decide +kernel
theorem dX1_columns_68 : decode cX1_columns 68 = .ok (.iload_n 3, 1) := by decide +kernel
theorem dX1_columns_69 : decode cX1_columns 69 = .ok (.iload 7, 2) := by decide +kernel
theorem dX1_columns_71 : decode cX1_columns 71 = .ok (.isub, 1) := by decide +kernel
theorem dX1_columns_72 : decode cX1_columns 72 = .ok (.ifCond .lt 31, 3) := by decide +kernel
theorem dX1_columns_75 : decode cX1_columns 75 = .ok (.iload_n 3, 1) := by decide +kernel
theorem dX1_columns_76 : decode cX1_columns 76 = .ok (.iload 7, 2) := by decide +kernel
theorem dX1_columns_78 : decode cX1_columns 78 = .ok (.isub, 1) := by decide +kernel
theorem dX1_columns_79 : decode cX1_columns 79 = .ok (.aload_n 0, 1) := by decide +kernel
theorem dX1_columns_80 : decode cX1_columns 80 = .ok (.getfield 48, 3) := by decide +kernel
theorem dX1_columns_83 : decode cX1_columns 83 = .ok (.if_icmp .ge 20, 3) := by decide +kernel
theorem dX1_columns_86 : decode cX1_columns 86 = .ok (.aload_n 0, 1) := by decide +kernel
theorem dX1_columns_87 : decode cX1_columns 87 = .ok (.iload_n 3, 1) := by decide +kernel
theorem dX1_columns_88 : decode cX1_columns 88 = .ok (.iload 7, 2) := by decide +kernel
theorem dX1_columns_90 : decode cX1_columns 90 = .ok (.isub, 1) := by decide +kernel
theorem dX1_columns_91 : decode cX1_columns 91 = .ok (.iload 5, 2) := by decide +kernel
theorem dX1_columns_93 : decode cX1_columns 93 = .ok (.invokevirtual 58, 3) := by decide +kernel
theorem dX1_columns_96 : decode cX1_columns 96 = .ok (.ifCond .eq 7, 3) := by decide +kernel
end
section
theorem dX1_columns_99 : decode cX1_columns 99 = .ok (.iconst 1, 1) := by decide +kernel
theorem dX1_columns_100 : decode cX1_columns 100 = .ok (.goto 4, 3) := by decide +kernel
theorem dX1_columns_103 : decode cX1_columns 103 = .ok (.iconst 0, 1) := by decide +kernel
theorem dX1_columns_104 : decode cX1_columns 104 = .ok (.istore 4, 2) := by decide +kernel
theorem dX1_columns_106 : decode cX1_columns 106 = .ok (.iinc 5 1, 3) := by decide +kernel
theorem dX1_columns_109 : decode cX1_columns 109 = .ok (.goto (-92), 3) := by decide +kernel
theorem dX1_columns_112 : decode cX1_columns 112 = .ok (.iload 4, 2) := by decide +kernel
theorem dX1_columns_114 : decode cX1_columns 114 = .ok (.ifCond .eq 9, 3) := by decide +kernel
theorem dX1_columns_117 : decode cX1_columns 117 = .ok (.iload_n 2, 1) := by decide +kernel
theorem dX1_columns_118 : decode cX1_columns 118 = .ok (.iconst 1, 1) := by decide +kernel
theorem dX1_columns_119 : decode cX1_columns 119 = .ok (.iadd, 1) := by decide +kernel
theorem dX1_columns_120 : decode cX1_columns 120 = .ok (.goto 4, 3) := by decide +kernel
theorem dX1_columns_123 : decode cX1_columns 123 = .ok (.iload_n 2, 1) := by decide +kernel
theorem dX1_columns_124 : decode cX1_columns 124 = .ok (.istore_n 2, 1) := by decide +kernel
theorem dX1_columns_125 : decode cX1_columns 125 = .ok (.iinc 3 1, 3) := by decide +kernel
theorem dX1_columns_128 : decode cX1_columns 128 = .ok (.goto (-123), 3) := by decide +kernel
theorem dX1_columns_131 : decode cX1_columns 131 = .ok (.iload_n 2, 1) := by decide +kernel
theorem dX1_columns_132 : decode cX1_columns 132 = .ok (.ireturn, 1) := by decide +kernel
set_option maxRecDepth 20000 in
theorem ggX1_slant_X1_columns : GoodIn wsX1_slant wsX1_columns := goodIn_r _ [6, 7, 8, 9, 10, 11, 5, 12, 13, 14, 15, 16, 17, 18, 19, 20, 21, 22, 23, 24, 25, 26, 27, 28, 29, 30] (by decide +kernel) (by decide +kernel)
set_option maxRecDepth 20000 in
theorem gX1_slant_X1_columns : GoodIn wsX1_slant (wsV RX1 128 RX1 yX1_columns wsX1_columns) := goodIn_app (goodIn_of _ (by decide +kernel)) ggX1_slant_X1_columns
theorem dX1_slant_0 : decode cX1_slant 0 = .ok (.aload_n 0, 1) := by decide +kernel
theorem dX1_slant_1 : decode cX1_slant 1 = .ok (.iconst 0, 1) := by decide +kernel
theorem dX1_slant_2 : decode cX1_slant 2 = .ok (.putfield 55, 3) := by decide +kernel
theorem dX1_slant_5 : decode cX1_slant 5 = .ok (.iconst 0, 1) := by decide +kernel
theorem dX1_slant_6 : decode cX1_slant 6 = .ok (.istore_n 1, 1) := by decide +kernel
theorem dX1_slant_7 : decode cX1_slant 7 = .ok (.aload_n 0, 1) := by decide +kernel
theorem dX1_slant_8 : decode cX1_slant 8 = .ok (.iconst 0, 1) := by decide +kernel
theorem dX1_slant_9 : decode cX1_slant 9 = .ok (.invokevirtual 128, 3) := by decide +kernel
theorem dX1_slant_12 : decode cX1_slant 12 = .ok (.istore_n 2, 1) := by decide +kernel
theorem dX1_slant_13 : decode cX1_slant 13 = .ok (.iconst 1, 1) := by decide +kernel
theorem dX1_slant_14 : decode cX1_slant 14 = .ok (.istore_n 3, 1) := by decide +kernel
theorem dX1_slant_15 : decode cX1_slant 15 = .ok (.iload_n 3, 1) := by decide +kernel
theorem dX1_slant_16 : decode cX1_slant 16 = .ok (.bipush 7, 2) := by decide +kernel
theorem dX1_slant_18 : decode cX1_slant 18 = .ok (.if_icmp .ge 75, 3) := by decide +kernel
theorem dX1_slant_21 : decode cX1_slant 21 = .ok (.aload_n 0, 1) := by decide +kernel
theorem dX1_slant_22 : decode cX1_slant 22 = .ok (.iload_n 3, 1) := by decide +kernel
theorem dX1_slant_23 : decode cX1_slant 23 = .ok (.ineg, 1) := by decide +kernel
theorem dX1_slant_24 : decode cX1_slant 24 = .ok (.invokevirtual 128, 3) := by decide +kernel
theorem dX1_slant_27 : decode cX1_slant 27 = .ok (.istore 4, 2) := by decide +kernel
theorem dX1_slant_29 : decode cX1_slant 29 = .ok (.iload 4, 2) := by decide +kernel
theorem dX1_slant_31 : decode cX1_slant 31 = .ok (.iload_n 2, 1) := by decide +kernel
theorem dX1_slant_32 : decode cX1_slant 32 = .ok (.if_icmp .ge 8, 3) := by decide +kernel
theorem dX1_slant_35 : decode cX1_slant 35 = .ok (.iload_n 3, 1) := by decide +kernel
theorem dX1_slant_36 : decode cX1_slant 36 = .ok (.ineg, 1) := by decide +kernel
theorem dX1_slant_37 : decode cX1_slant 37 = .ok (.goto 4, 3) := by decide +kernel
theorem dX1_slant_40 : decode cX1_slant 40 = .ok (.iload_n 1, 1) := by decide +kernel
theorem dX1_slant_41 : decode cX1_slant 41 = .ok (.istore_n 1, 1) := by decide +kernel
theorem dX1_slant_42 : decode cX1_slant 42 = .ok (.iload 4, 2) := by decide +kernel
theorem dX1_slant_44 : decode cX1_slant 44 = .ok (.iload_n 2, 1) := by decide +kernel
theorem dX1_slant_45 : decode cX1_slant 45 = .ok (.if_icmp .ge 8, 3) := by decide +kernel
theorem dX1_slant_48 : decode cX1_slant 48 = .ok (.iload 4, 2) := by decide +kernel
theorem dX1_slant_50 : decode cX1_slant 50 = .ok (.goto 4, 3) := by decide +kernel
theorem dX1_slant_53 : decode cX1_slant 53 = .ok (.iload_n 2, 1) := by decide +kernel
theorem dX1_slant_54 : decode cX1_slant 54 = .ok (.istore_n 2, 1) := by decide +kernel
theorem dX1_slant_55 : decode cX1_slant 55 = .ok (.aload_n 0, 1) := by decide +kernel
theorem dX1_slant_56 : decode cX1_slant 56 = .ok (.iload_n 3, 1) := by decide +kernel
theorem dX1_slant_57 : decode cX1_slant 57 = .ok (.invokevirtual 128, 3) := by decide +kernel
theorem dX1_slant_60 : decode cX1_slant 60 = .ok (.istore 5, 2) := by decide +kernel
theorem dX1_slant_62 : decode cX1_slant 62 = .ok (.iload 5, 2) := by decide +kernel
theorem dX1_slant_64 : decode cX1_slant 64 = .ok (.iload_n 2, 1) := by decide +kernel
theorem dX1_slant_65 : decode cX1_slant 65 = .ok (.if_icmp .ge 7, 3) := by decide +kernel
theorem dX1_slant_68 : decode cX1_slant 68 = .ok (.iload_n 3, 1) := by decide +kernel
theorem dX1_slant_69 : decode cX1_slant 69 = .ok (.goto 4, 3) := by decide +kernel
theorem dX1_slant_72 : decode cX1_slant 72 = .ok (.iload_n 1, 1) := by decide +kernel
theorem dX1_slant_73 : decode cX1_slant 73 = .ok (.istore_n 1, 1) := by decide +kernel
theorem dX1_slant_74 : decode cX1_slant 74 = .ok (.iload 5, 2) := by decide +kernel
theorem dX1_slant_76 : decode cX1_slant 76 = .ok (.iload_n 2, 1) := by decide +kernel
theorem dX1_slant_77 : decode cX1_slant 77 = .ok (.if_icmp .ge 8, 3) := by decide +kernel
theorem dX1_slant_80 : decode cX1_slant 80 = .ok (.iload 5, 2) := by decide +kernel
theorem dX1_slant_82 : decode cX1_slant 82 = .ok (.goto 4, 3) := by decide +kernel
theorem dX1_slant_85 : decode cX1_slant 85 = .ok (.iload_n 2, 1) := by decide +kernel
theorem dX1_slant_86 : decode cX1_slant 86 = .ok (.istore_n 2, 1) := by decide +kernel
theorem dX1_slant_87 : decode cX1_slant 87 = .ok (.iinc 3 1, 3) := by decide +kernel
theorem dX1_slant_90 : decode cX1_slant 90 = .ok (.goto (-75), 3) := by decide +kernel
theorem dX1_slant_93 : decode cX1_slant 93 = .ok (.iload_n 1, 1) := by decide +kernel
theorem dX1_slant_94 : decode cX1_slant 94 = .ok (.ireturn, 1) := by decide +kernel
set_option maxRecDepth 20000 in
theorem ggX1_plain_X1_mostInRow : GoodIn wsX1_plain wsX1_mostInRow := goodIn_r _ [10, 11, 12, 13, 14, 9, 15, 16, 17, 18, 19, 20, 21, 71, 72, 73, 74, 75, 76, 77, 78, 79, 80, 81, 82, 83, 84, 85, 86, 87] (by decide +kernel) (by decide +kernel)
set_option maxRecDepth 20000 in
theorem gX1_plain_X1_mostInRow : GoodIn wsX1_plain (wsV RX1 66 RX1 yX1_mostInRow wsX1_mostInRow) := goodIn_app (goodIn_of _ (by decide +kernel)) ggX1_plain_X1_mostInRow
set_option maxRecDepth 20000 in
theorem ggX1_plain_X1_from : GoodIn wsX1_plain wsX1_from := goodIn_r _ [25, 26, 27, 28, 9, 29, 11, 16, 17, 18, 19, 20, 21, 71, 72, 73, 74, 75, 76, 77, 78, 79, 80, 81, 82, 83, 84, 85, 86, 87] (by decide +kernel) (by decide +kernel)
set_option maxRecDepth 20000 in
theorem gX1_plain_X1_from : GoodIn wsX1_plain (wsV RX1 119 RX1 yX1_from wsX1_from) := goodIn_app (goodIn_of _ (by decide +kernel)) ggX1_plain_X1_from
set_option maxRecDepth 20000 in
theorem ggX1_plain_X1_until : GoodIn wsX1_plain wsX1_until := goodIn_r _ [33, 16, 26, 27, 28, 9, 29, 11, 17, 18, 19, 20, 21, 71, 72, 73, 74, 75, 76, 77, 78, 79, 80, 81, 82, 83, 84, 85, 86, 87] (by decide +kernel) (by decide +kernel)
set_option maxRecDepth 20000 in
theorem gX1_plain_X1_until : GoodIn wsX1_plain (wsV RX1 122 RX1 yX1_until wsX1_until) := goodIn_app (goodIn_of _ (by decide +kernel)) ggX1_plain_X1_until
set_option maxRecDepth 20000 in
theorem ggX1_plain_X1_look : GoodIn wsX1_plain wsX1_look := goodIn_r _ [37, 38, 39, 4, 40, 41, 42, 43, 9, 44, 45, 46, 47, 48, 11, 6, 7, 8, 10, 12, 13, 14, 15, 16, 17, 18, 19, 20, 21, 49, 50, 51, 52, 53, 54, 55, 56, 57, 58, 59, 60, 26, 27, 28, 29, 61, 62, 63, 64, 65, 66, 67, 68, 69, 70, 71, 72, 73, 74, 75, 76, 77, 78, 79, 80, 81, 82, 83, 84, 85, 86, 87] (by decide +kernel) (by decide +kernel)
set_option maxRecDepth 20000 in
theorem gX1_plain_X1_look : GoodIn wsX1_plain (wsV RX1 106 RX1 yX1_look wsX1_look) := goodIn_app (goodIn_of _ (by decide +kernel)) ggX1_plain_X1_look
theorem dX1_plain_0 : decode cX1_plain 0 = .ok (.aload_n 0, 1) := by decide +kernel
theorem dX1_plain_1 : decode cX1_plain 1 = .ok (.iconst 0, 1) := by decide +kernel
theorem dX1_plain_2 : decode cX1_plain 2 = .ok (.putfield 55, 3) := by decide +kernel
theorem dX1_plain_5 : decode cX1_plain 5 = .ok (.aload_n 0, 1) := by decide +kernel
theorem dX1_plain_6 : decode cX1_plain 6 = .ok (.invokevirtual 66, 3) := by decide +kernel
theorem dX1_plain_9 : decode cX1_plain 9 = .ok (.ifCond .eq 14, 3) := by decide +kernel
theorem dX1_plain_12 : decode cX1_plain 12 = .ok (.iload_n 1, 1) := by decide +kernel
theorem dX1_plain_13 : decode cX1_plain 13 = .ok (.iconst 1, 1) := by decide +kernel
theorem dX1_plain_14 : decode cX1_plain 14 = .ok (.if_icmp .lt 9, 3) := by decide +kernel
theorem dX1_plain_17 : decode cX1_plain 17 = .ok (.iload_n 1, 1) := by decide +kernel
theorem dX1_plain_18 : decode cX1_plain 18 = .ok (.bipush 60, 2) := by decide +kernel
theorem dX1_plain_20 : decode cX1_plain 20 = .ok (.if_icmp .le 5, 3) := by decide +kernel
theorem dX1_plain_23 : decode cX1_plain 23 = .ok (.iconst 0, 1) := by decide +kernel
theorem dX1_plain_24 : decode cX1_plain 24 = .ok (.ireturn, 1) := by decide +kernel
theorem dX1_plain_25 : decode cX1_plain 25 = .ok (.aload_n 0, 1) := by decide +kernel
theorem dX1_plain_26 : decode cX1_plain 26 = .ok (.invokevirtual 119, 3) := by decide +kernel
theorem dX1_plain_29 : decode cX1_plain 29 = .ok (.istore_n 2, 1) := by decide +kernel
theorem dX1_plain_30 : decode cX1_plain 30 = .ok (.aload_n 0, 1) := by decide +kernel
theorem dX1_plain_31 : decode cX1_plain 31 = .ok (.invokevirtual 122, 3) := by decide +kernel
theorem dX1_plain_34 : decode cX1_plain 34 = .ok (.istore_n 3, 1) := by decide +kernel
theorem dX1_plain_35 : decode cX1_plain 35 = .ok (.aload_n 0, 1) := by decide +kernel
theorem dX1_plain_36 : decode cX1_plain 36 = .ok (.iload_n 2, 1) := by decide +kernel
theorem dX1_plain_37 : decode cX1_plain 37 = .ok (.iload_n 3, 1) := by decide +kernel
theorem dX1_plain_38 : decode cX1_plain 38 = .ok (.invokevirtual 106, 3) := by decide +kernel
theorem dX1_plain_41 : decode cX1_plain 41 = .ok (.iconst 0, 1) := by decide +kernel
theorem dX1_plain_42 : decode cX1_plain 42 = .ok (.istore 4, 2) := by decide +kernel
theorem dX1_plain_44 : decode cX1_plain 44 = .ok (.iload 4, 2) := by decide +kernel
theorem dX1_plain_46 : decode cX1_plain 46 = .ok (.bipush 61, 2) := by decide +kernel
theorem dX1_plain_48 : decode cX1_plain 48 = .ok (.if_icmp .ge 27, 3) := by decide +kernel
theorem dX1_plain_51 : decode cX1_plain 51 = .ok (.aload_n 0, 1) := by decide +kernel
theorem dX1_plain_52 : decode cX1_plain 52 = .ok (.getfield 39, 3) := by decide +kernel
theorem dX1_plain_55 : decode cX1_plain 55 = .ok (.iload 4, 2) := by decide +kernel
theorem dX1_plain_57 : decode cX1_plain 57 = .ok (.iload 4, 2) := by decide +kernel
theorem dX1_plain_59 : decode cX1_plain 59 = .ok (.iload_n 2, 1) := by decide +kernel
theorem dX1_plain_60 : decode cX1_plain 60 = .ok (.if_icmp .ne 7, 3) := by decide +kernel
theorem dX1_plain_63 : decode cX1_plain 63 = .ok (.lconst 1, 1) := by decide +kernel
theorem dX1_plain_64 : decode cX1_plain 64 = .ok (.goto 4, 3) := by decide +kernel
theorem dX1_plain_67 : decode cX1_plain 67 = .ok (.lconst 0, 1) := by decide +kernel
theorem dX1_plain_68 : decode cX1_plain 68 = .ok (.lastore, 1) := by decide +kernel
theorem dX1_plain_69 : decode cX1_plain 69 = .ok (.iinc 4 1, 3) := by decide +kernel
theorem dX1_plain_72 : decode cX1_plain 72 = .ok (.goto (-28), 3) := by decide +kernel
theorem dX1_plain_75 : decode cX1_plain 75 = .ok (.iconst 0, 1) := by decide +kernel
theorem dX1_plain_76 : decode cX1_plain 76 = .ok (.istore 4, 2) := by decide +kernel
theorem dX1_plain_78 : decode cX1_plain 78 = .ok (.iload 4, 2) := by decide +kernel
theorem dX1_plain_80 : decode cX1_plain 80 = .ok (.iload_n 1, 1) := by decide +kernel
theorem dX1_plain_81 : decode cX1_plain 81 = .ok (.if_icmp .ge 191, 3) := by decide +kernel
theorem dX1_plain_84 : decode cX1_plain 84 = .ok (.iload_n 2, 1) := by decide +kernel
theorem dX1_plain_85 : decode cX1_plain 85 = .ok (.istore 5, 2) := by decide +kernel
theorem dX1_plain_87 : decode cX1_plain 87 = .ok (.iload 5, 2) := by decide +kernel
theorem dX1_plain_89 : decode cX1_plain 89 = .ok (.iload_n 3, 1) := by decide +kernel
theorem dX1_plain_90 : decode cX1_plain 90 = .ok (.if_icmp .gt 129, 3) := by decide +kernel
theorem dX1_plain_93 : decode cX1_plain 93 = .ok (.aload_n 0, 1) := by decide +kernel
theorem dX1_plain_94 : decode cX1_plain 94 = .ok (.getfield 36, 3) := by decide +kernel
theorem dX1_plain_97 : decode cX1_plain 97 = .ok (.iload 5, 2) := by decide +kernel
theorem dX1_plain_99 : decode cX1_plain 99 = .ok (.lconst 0, 1) := by decide +kernel
theorem dX1_plain_100 : decode cX1_plain 100 = .ok (.lastore, 1) := by decide +kernel
theorem dX1_plain_101 : decode cX1_plain 101 = .ok (.iload_n 2, 1) := by decide +kernel
theorem dX1_plain_102 : decode cX1_plain 102 = .ok (.istore 6, 2) := by decide +kernel
theorem dX1_plain_104 : decode cX1_plain 104 = .ok (.iload 6, 2) := by decide +kernel
theorem dX1_plain_106 : decode cX1_plain 106 = .ok (.iload 5, 2) := by decide +kernel
theorem dX1_plain_108 : decode cX1_plain 108 = .ok (.if_icmp .ge 71, 3) := by decide +kernel
theorem dX1_plain_111 : decode cX1_plain 111 = .ok (.aload_n 0, 1) := by decide +kernel
theorem dX1_plain_112 : decode cX1_plain 112 = .ok (.getfield 36, 3) := by decide +kernel
theorem dX1_plain_115 : decode cX1_plain 115 = .ok (.iload 5, 2) := by decide +kernel
theorem dX1_plain_117 : decode cX1_plain 117 = .ok (.aload_n 0, 1) := by decide +kernel
theorem dX1_plain_118 : decode cX1_plain 118 = .ok (.getfield 39, 3) := by decide +kernel
theorem dX1_plain_121 : decode cX1_plain 121 = .ok (.iload 6, 2) := by decide +kernel
theorem dX1_plain_123 : decode cX1_plain 123 = .ok (.laload, 1) := by decide +kernel
theorem dX1_plain_124 : decode cX1_plain 124 = .ok (.lconst 0, 1) := by decide +kernel
theorem dX1_plain_125 : decode cX1_plain 125 = .ok (.lcmp, 1) := by decide +kernel
theorem dX1_plain_126 : decode cX1_plain 126 = .ok (.ifCond .le 39, 3) := by decide +kernel
theorem dX1_plain_129 : decode cX1_plain 129 = .ok (.aload_n 0, 1) := by decide +kernel
theorem dX1_plain_130 : decode cX1_plain 130 = .ok (.getfield 42, 3) := by decide +kernel
theorem dX1_plain_133 : decode cX1_plain 133 = .ok (.bipush 61, 2) := by decide +kernel
theorem dX1_plain_135 : decode cX1_plain 135 = .ok (.iload 6, 2) := by decide +kernel
theorem dX1_plain_137 : decode cX1_plain 137 = .ok (.imul, 1) := by decide +kernel
theorem dX1_plain_138 : decode cX1_plain 138 = .ok (.iload 5, 2) := by decide +kernel
theorem dX1_plain_140 : decode cX1_plain 140 = .ok (.iadd, 1) := by decide +kernel
theorem dX1_plain_141 : decode cX1_plain 141 = .ok (.laload, 1) := by decide +kernel
theorem dX1_plain_142 : decode cX1_plain 142 = .ok (.lconst 0, 1) := by decide +kernel
theorem dX1_plain_143 : decode cX1_plain 143 = .ok (.lcmp, 1) := by decide +kernel
theorem dX1_plain_144 : decode cX1_plain 144 = .ok (.ifCond .lt 21, 3) := by decide +kernel
theorem dX1_plain_147 : decode cX1_plain 147 = .ok (.aload_n 0, 1) := by decide +kernel
theorem dX1_plain_148 : decode cX1_plain 148 = .ok (.getfield 36, 3) := by decide +kernel
theorem dX1_plain_151 : decode cX1_plain 151 = .ok (.iload 5, 2) := by decide +kernel
theorem dX1_plain_153 : decode cX1_plain 153 = .ok (.laload, 1) := by decide +kernel
theorem dX1_plain_154 : decode cX1_plain 154 = .ok (.aload_n 0, 1) := by decide +kernel
theorem dX1_plain_155 : decode cX1_plain 155 = .ok (.getfield 39, 3) := by decide +kernel
theorem dX1_plain_158 : decode cX1_plain 158 = .ok (.iload 6, 2) := by decide +kernel
theorem dX1_plain_160 : decode cX1_plain 160 = .ok (.laload, 1) := by decide +kernel
theorem dX1_plain_161 : decode cX1_plain 161 = .ok (.ladd, 1) := by decide +kernel
theorem dX1_plain_162 : decode cX1_plain 162 = .ok (.goto 10, 3) := by decide +kernel
theorem dX1_plain_165 : decode cX1_plain 165 = .ok (.aload_n 0, 1) := by decide +kernel
theorem dX1_plain_166 : decode cX1_plain 166 = .ok (.getfield 36, 3) := by decide +kernel
theorem dX1_plain_169 : decode cX1_plain 169 = .ok (.iload 5, 2) := by decide +kernel
theorem dX1_plain_171 : decode cX1_plain 171 = .ok (.laload, 1) := by decide +kernel
theorem dX1_plain_172 : decode cX1_plain 172 = .ok (.lastore, 1) := by decide +kernel
theorem dX1_plain_173 : decode cX1_plain 173 = .ok (.iinc 6 1, 3) := by decide +kernel
theorem dX1_plain_176 : decode cX1_plain 176 = .ok (.goto (-72), 3) := by decide +kernel
theorem dX1_plain_179 : decode cX1_plain 179 = .ok (.aload_n 0, 1) := by decide +kernel
theorem dX1_plain_180 : decode cX1_plain 180 = .ok (.getfield 36, 3) := by decide +kernel
theorem dX1_plain_183 : decode cX1_plain 183 = .ok (.iload 5, 2) := by decide +kernel
theorem dX1_plain_185 : decode cX1_plain 185 = .ok (.aload_n 0, 1) := by decide +kernel
theorem dX1_plain_186 : decode cX1_plain 186 = .ok (.getfield 36, 3) := by decide +kernel
theorem dX1_plain_189 : decode cX1_plain 189 = .ok (.iload 5, 2) := by decide +kernel
theorem dX1_plain_191 : decode cX1_plain 191 = .ok (.laload, 1) := by decide +kernel
theorem dX1_plain_192 : decode cX1_plain 192 = .ok (.ldc2_w 131, 3) := by decide +kernel
theorem dX1_plain_195 : decode cX1_plain 195 = .ok (.lcmp, 1) := by decide +kernel
theorem dX1_plain_196 : decode cX1_plain 196 = .ok (.ifCond .le 9, 3) := by decide +kernel
theorem dX1_plain_199 : decode cX1_plain 199 = .ok (.ldc2_w 131, 3) := by decide +kernel
theorem dX1_plain_202 : decode cX1_plain 202 = .ok (.goto 10, 3) := by decide +kernel
theorem dX1_plain_205 : decode cX1_plain 205 = .ok (.aload_n 0, 1) := by decide +kernel
theorem dX1_plain_206 : decode cX1_plain 206 = .ok (.getfield 36, 3) := by decide +kernel
theorem dX1_plain_209 : decode cX1_plain 209 = .ok (.iload 5, 2) := by decide +kernel
theorem dX1_plain_211 : decode cX1_plain 211 = .ok (.laload, 1) := by decide +kernel
theorem dX1_plain_212 : decode cX1_plain 212 = .ok (.lastore, 1) := by decide +kernel
theorem dX1_plain_213 : decode cX1_plain 213 = .ok (.iinc 5 1, 3) := by decide +kernel
theorem dX1_plain_216 : decode cX1_plain 216 = .ok (.goto (-129), 3) := by decide +kernel
theorem dX1_plain_219 : decode cX1_plain 219 = .ok (.iload_n 2, 1) := by decide +kernel
theorem dX1_plain_220 : decode cX1_plain 220 = .ok (.istore 5, 2) := by decide +kernel
theorem dX1_plain_222 : decode cX1_plain 222 = .ok (.iload 5, 2) := by decide +kernel
theorem dX1_plain_224 : decode cX1_plain 224 = .ok (.iload_n 3, 1) := by decide +kernel
theorem dX1_plain_225 : decode cX1_plain 225 = .ok (.if_icmp .gt 41, 3) := by decide +kernel
theorem dX1_plain_228 : decode cX1_plain 228 = .ok (.aload_n 0, 1) := by decide +kernel
theorem dX1_plain_229 : decode cX1_plain 229 = .ok (.getfield 39, 3) := by decide +kernel
theorem dX1_plain_232 : decode cX1_plain 232 = .ok (.iload 5, 2) := by decide +kernel
theorem dX1_plain_234 : decode cX1_plain 234 = .ok (.iload 5, 2) := by decide +kernel
theorem dX1_plain_236 : decode cX1_plain 236 = .ok (.iload_n 3, 1) := by decide +kernel
theorem dX1_plain_237 : decode cX1_plain 237 = .ok (.if_icmp .ne 15, 3) := by decide +kernel
theorem dX1_plain_240 : decode cX1_plain 240 = .ok (.iload 4, 2) := by decide +kernel
theorem dX1_plain_242 : decode cX1_plain 242 = .ok (.iload_n 1, 1) := by decide +kernel
theorem dX1_plain_243 : decode cX1_plain 243 = .ok (.iconst 1, 1) := by decide +kernel
theorem dX1_plain_244 : decode cX1_plain 244 = .ok (.isub, 1) := by decide +kernel
theorem dX1_plain_245 : decode cX1_plain 245 = .ok (.if_icmp .ge 7, 3) := by decide +kernel
theorem dX1_plain_248 : decode cX1_plain 248 = .ok (.lconst 0, 1) := by decide +kernel
theorem dX1_plain_249 : decode cX1_plain 249 = .ok (.goto 10, 3) := by decide +kernel
theorem dX1_plain_252 : decode cX1_plain 252 = .ok (.aload_n 0, 1) := by decide +kernel
theorem dX1_plain_253 : decode cX1_plain 253 = .ok (.getfield 36, 3) := by decide +kernel
theorem dX1_plain_256 : decode cX1_plain 256 = .ok (.iload 5, 2) := by decide +kernel
theorem dX1_plain_258 : decode cX1_plain 258 = .ok (.laload, 1) := by decide +kernel
theorem dX1_plain_259 : decode cX1_plain 259 = .ok (.lastore, 1) := by decide +kernel
theorem dX1_plain_260 : decode cX1_plain 260 = .ok (.iinc 5 1, 3) := by decide +kernel
theorem dX1_plain_263 : decode cX1_plain 263 = .ok (.goto (-41), 3) := by decide +kernel
theorem dX1_plain_266 : decode cX1_plain 266 = .ok (.iinc 4 1, 3) := by decide +kernel
theorem dX1_plain_269 : decode cX1_plain 269 = .ok (.goto (-191), 3) := by decide +kernel
theorem dX1_plain_272 : decode cX1_plain 272 = .ok (.aload_n 0, 1) := by decide +kernel
theorem dX1_plain_273 : decode cX1_plain 273 = .ok (.getfield 39, 3) := by decide +kernel
theorem dX1_plain_276 : decode cX1_plain 276 = .ok (.iload_n 3, 1) := by decide +kernel
theorem dX1_plain_277 : decode cX1_plain 277 = .ok (.laload, 1) := by decide +kernel
theorem dX1_plain_278 : decode cX1_plain 278 = .ok (.l2i, 1) := by decide +kernel
theorem dX1_plain_279 : decode cX1_plain 279 = .ok (.ireturn, 1) := by decide +kernel
theorem dJx00060_init_a7421_0 : decode cJx00060_init_a7421 0 = .ok (.aload_n 0, 1) := by decide +kernel
theorem dJx00060_init_a7421_1 : decode cJx00060_init_a7421 1 = .ok (.aload_n 1, 1) := by decide +kernel
theorem dJx00060_init_a7421_2 : decode cJx00060_init_a7421 2 = .ok (.invokespecial 7, 3) := by decide +kernel
theorem dJx00060_init_a7421_5 : decode cJx00060_init_a7421 5 = .ok (.return_, 1) := by decide +kernel
theorem dJ13_bitCount_95d88_0 : decode cJ13_bitCount_95d88 0 = .ok (.lload_n 0, 1) := by decide +kernel
theorem dJ13_bitCount_95d88_1 : decode cJ13_bitCount_95d88 1 = .ok (.lload_n 0, 1) := by decide +kernel
theorem dJ13_bitCount_95d88_2 : decode cJ13_bitCount_95d88 2 = .ok (.iconst 1, 1) := by decide +kernel
theorem dJ13_bitCount_95d88_3 : decode cJ13_bitCount_95d88 3 = .ok (.lushr, 1) := by decide +kernel
theorem dJ13_bitCount_95d88_4 : decode cJ13_bitCount_95d88 4 = .ok (.ldc2_w 314, 3) := by decide +kernel
theorem dJ13_bitCount_95d88_7 : decode cJ13_bitCount_95d88 7 = .ok (.land, 1) := by decide +kernel
theorem dJ13_bitCount_95d88_8 : decode cJ13_bitCount_95d88 8 = .ok (.lsub, 1) := by decide +kernel
theorem dJ13_bitCount_95d88_9 : decode cJ13_bitCount_95d88 9 = .ok (.lstore_n 0, 1) := by decide +kernel
theorem dJ13_bitCount_95d88_10 : decode cJ13_bitCount_95d88 10 = .ok (.lload_n 0, 1) := by decide +kernel
theorem dJ13_bitCount_95d88_11 : decode cJ13_bitCount_95d88 11 = .ok (.ldc2_w 316, 3) := by decide +kernel
theorem dJ13_bitCount_95d88_14 : decode cJ13_bitCount_95d88 14 = .ok (.land, 1) := by decide +kernel
theorem dJ13_bitCount_95d88_15 : decode cJ13_bitCount_95d88 15 = .ok (.lload_n 0, 1) := by decide +kernel
theorem dJ13_bitCount_95d88_16 : decode cJ13_bitCount_95d88 16 = .ok (.iconst 2, 1) := by decide +kernel
theorem dJ13_bitCount_95d88_17 : decode cJ13_bitCount_95d88 17 = .ok (.lushr, 1) := by decide +kernel
theorem dJ13_bitCount_95d88_18 : decode cJ13_bitCount_95d88 18 = .ok (.ldc2_w 316, 3) := by decide +kernel
theorem dJ13_bitCount_95d88_21 : decode cJ13_bitCount_95d88 21 = .ok (.land, 1) := by decide +kernel
theorem dJ13_bitCount_95d88_22 : decode cJ13_bitCount_95d88 22 = .ok (.ladd, 1) := by decide +kernel
theorem dJ13_bitCount_95d88_23 : decode cJ13_bitCount_95d88 23 = .ok (.lstore_n 0, 1) := by decide +kernel
theorem dJ13_bitCount_95d88_24 : decode cJ13_bitCount_95d88 24 = .ok (.lload_n 0, 1) := by decide +kernel
theorem dJ13_bitCount_95d88_25 : decode cJ13_bitCount_95d88 25 = .ok (.lload_n 0, 1) := by decide +kernel
theorem dJ13_bitCount_95d88_26 : decode cJ13_bitCount_95d88 26 = .ok (.iconst 4, 1) := by decide +kernel
theorem dJ13_bitCount_95d88_27 : decode cJ13_bitCount_95d88 27 = .ok (.lushr, 1) := by decide +kernel
theorem dJ13_bitCount_95d88_28 : decode cJ13_bitCount_95d88 28 = .ok (.ladd, 1) := by decide +kernel
theorem dJ13_bitCount_95d88_29 : decode cJ13_bitCount_95d88 29 = .ok (.ldc2_w 318, 3) := by decide +kernel
theorem dJ13_bitCount_95d88_32 : decode cJ13_bitCount_95d88 32 = .ok (.land, 1) := by decide +kernel
theorem dJ13_bitCount_95d88_33 : decode cJ13_bitCount_95d88 33 = .ok (.lstore_n 0, 1) := by decide +kernel
theorem dJ13_bitCount_95d88_34 : decode cJ13_bitCount_95d88 34 = .ok (.lload_n 0, 1) := by decide +kernel
theorem dJ13_bitCount_95d88_35 : decode cJ13_bitCount_95d88 35 = .ok (.lload_n 0, 1) := by decide +kernel
theorem dJ13_bitCount_95d88_36 : decode cJ13_bitCount_95d88 36 = .ok (.bipush 8, 2) := by decide +kernel
theorem dJ13_bitCount_95d88_38 : decode cJ13_bitCount_95d88 38 = .ok (.lushr, 1) := by decide +kernel
theorem dJ13_bitCount_95d88_39 : decode cJ13_bitCount_95d88 39 = .ok (.ladd, 1) := by decide +kernel
theorem dJ13_bitCount_95d88_40 : decode cJ13_bitCount_95d88 40 = .ok (.lstore_n 0, 1) := by decide +kernel
theorem dJ13_bitCount_95d88_41 : decode cJ13_bitCount_95d88 41 = .ok (.lload_n 0, 1) := by decide +kernel
theorem dJ13_bitCount_95d88_42 : decode cJ13_bitCount_95d88 42 = .ok (.lload_n 0, 1) := by decide +kernel
theorem dJ13_bitCount_95d88_43 : decode cJ13_bitCount_95d88 43 = .ok (.bipush 16, 2) := by decide +kernel
theorem dJ13_bitCount_95d88_45 : decode cJ13_bitCount_95d88 45 = .ok (.lushr, 1) := by decide +kernel
theorem dJ13_bitCount_95d88_46 : decode cJ13_bitCount_95d88 46 = .ok (.ladd, 1) := by decide +kernel
theorem dJ13_bitCount_95d88_47 : decode cJ13_bitCount_95d88 47 = .ok (.lstore_n 0, 1) := by decide +kernel
theorem dJ13_bitCount_95d88_48 : decode cJ13_bitCount_95d88 48 = .ok (.lload_n 0, 1) := by decide +kernel
theorem dJ13_bitCount_95d88_49 : decode cJ13_bitCount_95d88 49 = .ok (.lload_n 0, 1) := by decide +kernel
theorem dJ13_bitCount_95d88_50 : decode cJ13_bitCount_95d88 50 = .ok (.bipush 32, 2) := by decide +kernel
theorem dJ13_bitCount_95d88_52 : decode cJ13_bitCount_95d88 52 = .ok (.lushr, 1) := by decide +kernel
theorem dJ13_bitCount_95d88_53 : decode cJ13_bitCount_95d88 53 = .ok (.ladd, 1) := by decide +kernel
theorem dJ13_bitCount_95d88_54 : decode cJ13_bitCount_95d88 54 = .ok (.lstore_n 0, 1) := by decide +kernel
theorem dJ13_bitCount_95d88_55 : decode cJ13_bitCount_95d88 55 = .ok (.lload_n 0, 1) := by decide +kernel
theorem dJ13_bitCount_95d88_56 : decode cJ13_bitCount_95d88 56 = .ok (.l2i, 1) := by decide +kernel
theorem dJ13_bitCount_95d88_57 : decode cJ13_bitCount_95d88 57 = .ok (.bipush 127, 2) := by decide +kernel
theorem dJ13_bitCount_95d88_59 : decode cJ13_bitCount_95d88 59 = .ok (.iand, 1) := by decide +kernel
theorem dJ13_bitCount_95d88_60 : decode cJ13_bitCount_95d88 60 = .ok (.ireturn, 1) := by decide +kernel
theorem dJ9_floorDiv_7cf53_0 : decode cJ9_floorDiv_7cf53 0 = .ok (.iload_n 0, 1) := by decide +kernel
theorem dJ9_floorDiv_7cf53_1 : decode cJ9_floorDiv_7cf53 1 = .ok (.iload_n 1, 1) := by decide +kernel
theorem dJ9_floorDiv_7cf53_2 : decode cJ9_floorDiv_7cf53 2 = .ok (.idiv, 1) := by decide +kernel
theorem dJ9_floorDiv_7cf53_3 : decode cJ9_floorDiv_7cf53 3 = .ok (.istore_n 2, 1) := by decide +kernel
theorem dJ9_floorDiv_7cf53_4 : decode cJ9_floorDiv_7cf53 4 = .ok (.iload_n 0, 1) := by decide +kernel
theorem dJ9_floorDiv_7cf53_5 : decode cJ9_floorDiv_7cf53 5 = .ok (.iload_n 1, 1) := by decide +kernel
theorem dJ9_floorDiv_7cf53_6 : decode cJ9_floorDiv_7cf53 6 = .ok (.ixor, 1) := by decide +kernel
theorem dJ9_floorDiv_7cf53_7 : decode cJ9_floorDiv_7cf53 7 = .ok (.ifCond .ge 14, 3) := by decide +kernel
theorem dJ9_floorDiv_7cf53_10 : decode cJ9_floorDiv_7cf53 10 = .ok (.iload_n 2, 1) := by decide +kernel
theorem dJ9_floorDiv_7cf53_11 : decode cJ9_floorDiv_7cf53 11 = .ok (.iload_n 1, 1) := by decide +kernel
theorem dJ9_floorDiv_7cf53_12 : decode cJ9_floorDiv_7cf53 12 = .ok (.imul, 1) := by decide +kernel
theorem dJ9_floorDiv_7cf53_13 : decode cJ9_floorDiv_7cf53 13 = .ok (.iload_n 0, 1) := by decide +kernel
theorem dJ9_floorDiv_7cf53_14 : decode cJ9_floorDiv_7cf53 14 = .ok (.if_icmp .eq 7, 3) := by decide +kernel
theorem dJ9_floorDiv_7cf53_17 : decode cJ9_floorDiv_7cf53 17 = .ok (.iload_n 2, 1) := by decide +kernel
theorem dJ9_floorDiv_7cf53_18 : decode cJ9_floorDiv_7cf53 18 = .ok (.iconst 1, 1) := by decide +kernel
theorem dJ9_floorDiv_7cf53_19 : decode cJ9_floorDiv_7cf53 19 = .ok (.isub, 1) := by decide +kernel
theorem dJ9_floorDiv_7cf53_20 : decode cJ9_floorDiv_7cf53 20 = .ok (.ireturn, 1) := by decide +kernel
theorem dJ9_floorDiv_7cf53_21 : decode cJ9_floorDiv_7cf53 21 = .ok (.iload_n 2, 1) := by decide +kernel
theorem dJ9_floorDiv_7cf53_22 : decode cJ9_floorDiv_7cf53 22 = .ok (.ireturn, 1) := by decide +kernel
theorem dJ9_max_7cf53_0 : decode cJ9_max_7cf53 0 = .ok (.iload_n 0, 1) := by decide +kernel
theorem dJ9_max_7cf53_1 : decode cJ9_max_7cf53 1 = .ok (.iload_n 1, 1) := by decide +kernel
theorem dJ9_max_7cf53_2 : decode cJ9_max_7cf53 2 = .ok (.if_icmp .lt 7, 3) := by decide +kernel
theorem dJ9_max_7cf53_5 : decode cJ9_max_7cf53 5 = .ok (.iload_n 0, 1) := by decide +kernel
theorem dJ9_max_7cf53_6 : decode cJ9_max_7cf53 6 = .ok (.goto 4, 3) := by decide +kernel
theorem dJ9_max_7cf53_9 : decode cJ9_max_7cf53 9 = .ok (.iload_n 1, 1) := by decide +kernel
theorem dJ9_max_7cf53_10 : decode cJ9_max_7cf53 10 = .ok (.ireturn, 1) := by decide +kernel
theorem dJ9_min_7cf53_0 : decode cJ9_min_7cf53 0 = .ok (.iload_n 0, 1) := by decide +kernel
theorem dJ9_min_7cf53_1 : decode cJ9_min_7cf53 1 = .ok (.iload_n 1, 1) := by decide +kernel
theorem dJ9_min_7cf53_2 : decode cJ9_min_7cf53 2 = .ok (.if_icmp .gt 7, 3) := by decide +kernel
theorem dJ9_min_7cf53_5 : decode cJ9_min_7cf53 5 = .ok (.iload_n 0, 1) := by decide +kernel
theorem dJ9_min_7cf53_6 : decode cJ9_min_7cf53 6 = .ok (.goto 4, 3) := by decide +kernel
theorem dJ9_min_7cf53_9 : decode cJ9_min_7cf53 9 = .ok (.iload_n 1, 1) := by decide +kernel
theorem dJ9_min_7cf53_10 : decode cJ9_min_7cf53 10 = .ok (.ireturn, 1) := by decide +kernel
theorem dL_cell_0 : decode cL_cell 0 = .ok (.iload_n 1, 1) := by decide +kernel
theorem dL_cell_1 : decode cL_cell 1 = .ok (.aload_n 0, 1) := by decide +kernel
theorem dL_cell_2 : decode cL_cell 2 = .ok (.arraylength, 1) := by decide +kernel
theorem dL_cell_3 : decode cL_cell 3 = .ok (.if_icmp .ge 9, 3) := by decide +kernel
theorem dL_cell_6 : decode cL_cell 6 = .ok (.aload_n 0, 1) := by decide +kernel
theorem dL_cell_7 : decode cL_cell 7 = .ok (.iload_n 1, 1) := by decide +kernel
theorem dL_cell_8 : decode cL_cell 8 = .ok (.iaload, 1) := by decide +kernel
theorem dL_cell_9 : decode cL_cell 9 = .ok (.goto 4, 3) := by decide +kernel
theorem dL_cell_12 : decode cL_cell 12 = .ok (.iconst 0, 1) := by decide +kernel
theorem dL_cell_13 : decode cL_cell 13 = .ok (.ireturn, 1) := by decide +kernel
set_option maxRecDepth 20000 in
theorem ggL_column_X0_column : GoodIn wsL_column wsX0_column := goodIn_r _ [5, 6, 7, 8, 9, 10, 11, 12, 13, 14, 15, 16, 17, 18, 19, 20, 21, 22, 23, 24, 25, 26, 27, 28, 29, 30] (by decide +kernel) (by decide +kernel)
set_option maxRecDepth 20000 in
theorem gL_column_X0_column : GoodIn wsL_column (wsV RL 7 RX0 yX0_column wsX0_column) := goodIn_app (goodIn_of _ (by decide +kernel)) ggL_column_X0_column
theorem dL_column_0 : decode cL_column 0 = .ok (.aload_n 0, 1) := by decide +kernel
theorem dL_column_1 : decode cL_column 1 = .ok (.iload_n 1, 1) := by decide +kernel
theorem dL_column_2 : decode cL_column 2 = .ok (.iload_n 2, 1) := by decide +kernel
theorem dL_column_3 : decode cL_column 3 = .ok (.iload_n 3, 1) := by decide +kernel
theorem dL_column_4 : decode cL_column 4 = .ok (.invokevirtual 7, 3) := by decide +kernel
theorem dL_column_7 : decode cL_column 7 = .ok (.goto 7, 3) := by decide +kernel
theorem dL_column_10 : decode cL_column 10 = .ok (.astore 4, 2) := by decide +kernel
theorem dL_column_12 : decode cL_column 12 = .ok (.iconst 1, 1) := by decide +kernel
theorem dL_column_13 : decode cL_column 13 = .ok (.ireturn, 1) := by decide +kernel
theorem dL_column_14 : decode cL_column 14 = .ok (.iconst 0, 1) := by decide +kernel
theorem dL_column_15 : decode cL_column 15 = .ok (.ireturn, 1) := by decide +kernel
set_option maxRecDepth 20000 in
theorem ggL_law_L_cell : GoodIn wsL_law wsL_cell := goodIn_r _ [9] (by decide +kernel) (by decide +kernel)
set_option maxRecDepth 20000 in
theorem gL_law_L_cell : GoodIn wsL_law (va_wsS RL 15 yL_cell wsL_cell) := goodIn_app (goodIn_of _ (by decide +kernel)) ggL_law_L_cell
set_option maxRecDepth 20000 in
theorem ggL_law_X0_init : GoodIn wsL_law wsX0_init := goodIn_r _ [12, 13, 14, 15, 16, 17, 18, 19, 20, 21, 22, 23, 24, 25, 26, 27, 28, 29, 30, 31, 32, 33, 299, 300, 301, 302, 303, 304, 305, 306, 307, 308, 309] (by decide +kernel) (by decide +kernel)
set_option maxRecDepth 20000 in
theorem gL_law_X0_init : GoodIn wsL_law (wsX0_init) := ggL_law_X0_init
set_option maxRecDepth 20000 in
theorem ggL_law_X1_init : GoodIn wsL_law wsX1_init := goodIn_r _ [36, 37, 14, 15, 38, 39, 29, 40, 25, 41, 42, 43, 44, 45, 46, 47, 48, 49, 50, 51, 52, 310, 311, 312, 313, 314, 315, 316, 317, 318, 319, 320, 321, 322, 323, 324, 325, 326] (by decide +kernel) (by decide +kernel)
set_option maxRecDepth 20000 in
theorem gL_law_X1_init : GoodIn wsL_law (wsX1_init) := ggL_law_X1_init
set_option maxRecDepth 20000 in
theorem ggL_law_L_column : GoodIn wsL_law wsL_column := goodIn_r _ [55, 56, 57, 58, 2, 59, 23, 24, 60, 61, 62, 26, 27, 63, 299, 300, 301, 302, 303, 304, 305, 306, 307, 308, 309, 327, 328, 329, 330, 331, 332] (by decide +kernel) (by decide +kernel)
set_option maxRecDepth 20000 in
theorem gL_law_L_column : GoodIn wsL_law (va_wsS RL 27 yL_column wsL_column) := goodIn_app (goodIn_of _ (by decide +kernel)) ggL_law_L_column
set_option maxRecDepth 20000 in
theorem ggL_law_X1_column : GoodIn wsL_law wsX1_column := goodIn_r _ [67, 51, 52, 68, 39, 310, 311, 312, 313, 314, 315, 316, 317, 318, 319, 320, 321, 322, 323, 324, 325, 326] (by decide +kernel) (by decide +kernel)
set_option maxRecDepth 20000 in
theorem gL_law_X1_column : GoodIn wsL_law (wsV RL 30 RX1 yX1_column wsX1_column) := goodIn_app (goodIn_of _ (by decide +kernel)) ggL_law_X1_column
set_option maxRecDepth 20000 in
theorem ggL_law_X1_thrown : GoodIn wsL_law wsX1_thrown := goodIn_r _ [72, 68, 310, 311, 312, 313, 314, 315, 316, 317, 318, 319, 320, 321, 322, 323, 324, 325, 326] (by decide +kernel) (by decide +kernel)
set_option maxRecDepth 20000 in
theorem gL_law_X1_thrown : GoodIn wsL_law (wsV RL 31 RX1 yX1_thrown wsX1_thrown) := goodIn_app (goodIn_of _ (by decide +kernel)) ggL_law_X1_thrown
set_option maxRecDepth 20000 in
theorem ggL_law_X0_cut : GoodIn wsL_law wsX0_cut := goodIn_r _ [76, 77, 78, 31, 79, 80, 81, 2, 82, 23, 26, 83, 84, 85, 86, 87, 88, 89, 90, 28, 30, 91, 92, 93, 94, 95, 96, 97, 98, 99, 100, 101, 102, 103, 104, 105, 24, 106, 107, 108, 109, 20, 21, 18, 22, 110, 111, 112, 113, 27, 114, 115, 116, 117, 118, 119, 120, 121, 122, 123, 124, 125, 126, 127, 128, 129, 130, 131, 132, 133, 134, 135, 136, 137, 138, 139, 63, 140, 141, 142, 143, 144, 145, 146, 147, 148, 149, 150, 16, 17, 19, 299, 300, 301, 302, 303, 304, 305, 306, 307, 308, 309] (by decide +kernel) (by decide +kernel)
set_option maxRecDepth 20000 in
theorem gL_law_X0_cut : GoodIn wsL_law (wsV RL 35 RX0 yX0_cut wsX0_cut) := goodIn_app (goodIn_of _ (by decide +kernel)) ggL_law_X0_cut
set_option maxRecDepth 20000 in
theorem ggL_law_X1_cut : GoodIn wsL_law wsX1_cut := goodIn_r _ [154, 68, 155, 40, 44, 41, 45, 46, 42, 43, 156, 157, 158, 5, 159, 52, 160, 161, 162, 163, 51, 164, 165, 166, 167, 39, 168, 169, 170, 171, 172, 173, 174, 175, 176, 177, 178, 179, 180, 181, 182, 183, 50, 49, 184, 185, 186, 187, 188, 189, 190, 191, 192, 193, 194, 195, 196, 197, 198, 199, 200, 201, 202, 203, 204, 205, 206, 207, 208, 209, 210, 211, 212, 213, 214, 215, 216, 217, 218, 219, 220, 221, 222, 223, 224, 310, 311, 312, 313, 314, 315, 316, 317, 318, 319, 320, 321, 322, 323, 324, 325, 326] (by decide +kernel) (by decide +kernel)
set_option maxRecDepth 20000 in
theorem gL_law_X1_cut : GoodIn wsL_law (wsV RL 39 RX1 yX1_cut wsX1_cut) := goodIn_app (goodIn_of _ (by decide +kernel)) ggL_law_X1_cut
set_option maxRecDepth 20000 in
theorem ggL_law_X0_way : GoodIn wsL_law wsX0_way := goodIn_r _ [228, 28, 78, 23, 229, 230, 231, 2, 232, 77, 91, 92, 93, 133, 134, 135, 299, 300, 301, 302, 303, 304, 305, 306, 307, 308, 309] (by decide +kernel) (by decide +kernel)
set_option maxRecDepth 20000 in
theorem gL_law_X0_way : GoodIn wsL_law (wsV RL 40 RX0 yX0_way wsX0_way) := goodIn_app (goodIn_of _ (by decide +kernel)) ggL_law_X0_way
set_option maxRecDepth 20000 in
theorem ggL_law_X1_way : GoodIn wsL_law wsX1_way := goodIn_r _ [236, 68, 155, 45, 46, 310, 311, 312, 313, 314, 315, 316, 317, 318, 319, 320, 321, 322, 323, 324, 325, 326] (by decide +kernel) (by decide +kernel)
set_option maxRecDepth 20000 in
theorem gL_law_X1_way : GoodIn wsL_law (wsV RL 44 RX1 yX1_way wsX1_way) := goodIn_app (goodIn_of _ (by decide +kernel)) ggL_law_X1_way
set_option maxRecDepth 20000 in
theorem ggL_law_X0_cost : GoodIn wsL_law wsX0_cost := goodIn_r _ [240, 30, 78, 63, 229, 230, 231, 2, 232, 77, 91, 92, 93, 299, 300, 301, 302, 303, 304, 305, 306, 307, 308, 309] (by decide +kernel) (by decide +kernel)
set_option maxRecDepth 20000 in
theorem gL_law_X0_cost : GoodIn wsL_law (wsV RL 45 RX0 yX0_cost wsX0_cost) := goodIn_app (goodIn_of _ (by decide +kernel)) ggL_law_X0_cost
set_option maxRecDepth 20000 in
theorem ggL_law_X1_cost : GoodIn wsL_law wsX1_cost := goodIn_r _ [244, 68, 155, 190, 44, 310, 311, 312, 313, 314, 315, 316, 317, 318, 319, 320, 321, 322, 323, 324, 325, 326] (by decide +kernel) (by decide +kernel)
set_option maxRecDepth 20000 in
theorem gL_law_X1_cost : GoodIn wsL_law (wsV RL 49 RX1 yX1_cost wsX1_cost) := goodIn_app (goodIn_of _ (by decide +kernel)) ggL_law_X1_cost
set_option maxRecDepth 20000 in
theorem ggL_law_X0_signs : GoodIn wsL_law wsX0_signs := goodIn_r _ [248, 28, 78, 229, 230, 231, 2, 232, 77, 91, 92, 93, 114, 115, 116, 117, 118, 119, 120, 299, 300, 301, 302, 303, 304, 305, 306, 307, 308, 309] (by decide +kernel) (by decide +kernel)
set_option maxRecDepth 20000 in
theorem gL_law_X0_signs : GoodIn wsL_law (wsV RL 50 RX0 yX0_signs wsX0_signs) := goodIn_app (goodIn_of _ (by decide +kernel)) ggL_law_X0_signs
set_option maxRecDepth 20000 in
theorem ggL_law_X1_signs : GoodIn wsL_law wsX1_signs := goodIn_r _ [252, 68, 155, 45, 310, 311, 312, 313, 314, 315, 316, 317, 318, 319, 320, 321, 322, 323, 324, 325, 326] (by decide +kernel) (by decide +kernel)
set_option maxRecDepth 20000 in
theorem gL_law_X1_signs : GoodIn wsL_law (wsV RL 53 RX1 yX1_signs wsX1_signs) := goodIn_app (goodIn_of _ (by decide +kernel)) ggL_law_X1_signs
set_option maxRecDepth 20000 in
theorem ggL_law_X0_base : GoodIn wsL_law wsX0_base := goodIn_r _ [256, 79, 80, 81, 2, 82, 23, 26, 121, 122, 123, 124, 24, 106, 107, 108, 109, 20, 21, 18, 22, 110, 111, 112, 113, 27, 114, 115, 116, 117, 118, 119, 120, 102, 103, 104, 105, 98, 99, 100, 101, 83, 84, 85, 86, 125, 126, 127, 128, 129, 130, 131, 132, 299, 300, 301, 302, 303, 304, 305, 306, 307, 308, 309] (by decide +kernel) (by decide +kernel)
set_option maxRecDepth 20000 in
theorem gL_law_X0_base : GoodIn wsL_law (wsV RL 54 RX0 yX0_base wsX0_base) := goodIn_app (goodIn_of _ (by decide +kernel)) ggL_law_X0_base
set_option maxRecDepth 20000 in
theorem ggL_law_X1_base : GoodIn wsL_law wsX1_base := goodIn_r _ [260, 68, 156, 157, 158, 5, 159, 52, 160, 161, 162, 163, 51, 164, 165, 166, 167, 39, 199, 200, 201, 202, 195, 196, 197, 198, 191, 192, 193, 194, 168, 169, 170, 171, 172, 173, 174, 175, 176, 177, 178, 179, 203, 204, 205, 206, 207, 208, 209, 210, 310, 311, 312, 313, 314, 315, 316, 317, 318, 319, 320, 321, 322, 323, 324, 325, 326] (by decide +kernel) (by decide +kernel)
set_option maxRecDepth 20000 in
theorem gL_law_X1_base : GoodIn wsL_law (wsV RL 57 RX1 yX1_base wsX1_base) := goodIn_app (goodIn_of _ (by decide +kernel)) ggL_law_X1_base
set_option maxRecDepth 20000 in
theorem ggL_law_X0_slant : GoodIn wsL_law wsX0_slant := goodIn_r _ [264, 265, 266, 267, 2, 268, 24, 27, 269, 270, 271, 272, 114, 115, 116, 117, 118, 119, 120, 299, 300, 301, 302, 303, 304, 305, 306, 307, 308, 309] (by decide +kernel) (by decide +kernel)
set_option maxRecDepth 20000 in
theorem gL_law_X0_slant : GoodIn wsL_law (wsV RL 58 RX0 yX0_slant wsX0_slant) := goodIn_app (goodIn_of _ (by decide +kernel)) ggL_law_X0_slant
set_option maxRecDepth 20000 in
theorem ggL_law_X1_slant : GoodIn wsL_law wsX1_slant := goodIn_r _ [276, 68, 277, 278, 279, 5, 280, 52, 51, 164, 165, 166, 167, 39, 310, 311, 312, 313, 314, 315, 316, 317, 318, 319, 320, 321, 322, 323, 324, 325, 326] (by decide +kernel) (by decide +kernel)
set_option maxRecDepth 20000 in
theorem gL_law_X1_slant : GoodIn wsL_law (wsV RL 61 RX1 yX1_slant wsX1_slant) := goodIn_app (goodIn_of _ (by decide +kernel)) ggL_law_X1_slant
set_option maxRecDepth 20000 in
theorem ggL_law_X0_plain : GoodIn wsL_law wsX0_plain := goodIn_r _ [284, 23, 32, 79, 80, 81, 2, 82, 26, 83, 84, 85, 86, 125, 126, 127, 128, 129, 130, 131, 132, 114, 115, 116, 117, 118, 119, 120, 285, 286, 287, 288, 33, 289, 16, 17, 18, 19, 290, 291, 292, 293, 133, 134, 135, 299, 300, 301, 302, 303, 304, 305, 306, 307, 308, 309] (by decide +kernel) (by decide +kernel)
set_option maxRecDepth 20000 in
theorem gL_law_X0_plain : GoodIn wsL_law (wsV RL 62 RX0 yX0_plain wsX0_plain) := goodIn_app (goodIn_of _ (by decide +kernel)) ggL_law_X0_plain
set_option maxRecDepth 20000 in
theorem ggL_law_X1_plain : GoodIn wsL_law wsX1_plain := goodIn_r _ [297, 68, 48, 47, 49, 298, 156, 157, 158, 5, 159, 52, 160, 161, 162, 163, 51, 164, 165, 166, 167, 39, 168, 169, 170, 171, 172, 173, 174, 175, 176, 177, 178, 179, 185, 186, 187, 188, 189, 50, 190, 191, 192, 193, 194, 195, 196, 197, 198, 199, 200, 201, 202, 203, 204, 205, 206, 207, 208, 209, 210, 211, 212, 213, 214, 215, 216, 217, 218, 219, 220, 310, 311, 312, 313, 314, 315, 316, 317, 318, 319, 320, 321, 322, 323, 324, 325, 326] (by decide +kernel) (by decide +kernel)
set_option maxRecDepth 20000 in
theorem gL_law_X1_plain : GoodIn wsL_law (wsV RL 65 RX1 yX1_plain wsX1_plain) := goodIn_app (goodIn_of _ (by decide +kernel)) ggL_law_X1_plain
theorem dL_law_0 : decode cL_law 0 = .ok (.new 8, 3) := by decide +kernel
theorem dL_law_3 : decode cL_law 3 = .ok (.dup, 1) := by decide +kernel
theorem dL_law_4 : decode cL_law 4 = .ok (.aload_n 0, 1) := by decide +kernel
theorem dL_law_5 : decode cL_law 5 = .ok (.iconst 0, 1) := by decide +kernel
theorem dL_law_6 : decode cL_law 6 = .ok (.invokestatic 15, 3) := by decide +kernel
theorem dL_law_9 : decode cL_law 9 = .ok (.aload_n 0, 1) := by decide +kernel
theorem dL_law_10 : decode cL_law 10 = .ok (.iconst 1, 1) := by decide +kernel
theorem dL_law_11 : decode cL_law 11 = .ok (.invokestatic 15, 3) := by decide +kernel
theorem dL_law_14 : decode cL_law 14 = .ok (.invokespecial 21, 3) := by decide +kernel
theorem dL_law_17 : decode cL_law 17 = .ok (.astore_n 1, 1) := by decide +kernel
theorem dL_law_18 : decode cL_law 18 = .ok (.new 24, 3) := by decide +kernel
theorem dL_law_21 : decode cL_law 21 = .ok (.dup, 1) := by decide +kernel
theorem dL_law_22 : decode cL_law 22 = .ok (.aload_n 0, 1) := by decide +kernel
theorem dL_law_23 : decode cL_law 23 = .ok (.iconst 0, 1) := by decide +kernel
theorem dL_law_24 : decode cL_law 24 = .ok (.invokestatic 15, 3) := by decide +kernel
theorem dL_law_27 : decode cL_law 27 = .ok (.aload_n 0, 1) := by decide +kernel
theorem dL_law_28 : decode cL_law 28 = .ok (.iconst 1, 1) := by decide +kernel
theorem dL_law_29 : decode cL_law 29 = .ok (.invokestatic 15, 3) := by decide +kernel
theorem dL_law_32 : decode cL_law 32 = .ok (.invokespecial 26, 3) := by decide +kernel
theorem dL_law_35 : decode cL_law 35 = .ok (.astore_n 2, 1) := by decide +kernel
theorem dL_law_36 : decode cL_law 36 = .ok (.iconst 2, 1) := by decide +kernel
theorem dL_law_37 : decode cL_law 37 = .ok (.istore_n 3, 1) := by decide +kernel
theorem dL_law_38 : decode cL_law 38 = .ok (.iload_n 3, 1) := by decide +kernel
theorem dL_law_39 : decode cL_law 39 = .ok (.aload_n 0, 1) := by decide +kernel
theorem dL_law_40 : decode cL_law 40 = .ok (.arraylength, 1) := by decide +kernel
theorem dL_law_41 : decode cL_law 41 = .ok (.iconst 4, 1) := by decide +kernel
theorem dL_law_42 : decode cL_law 42 = .ok (.isub, 1) := by decide +kernel
theorem dL_law_43 : decode cL_law 43 = .ok (.if_icmp .gt 295, 3) := by decide +kernel
theorem dL_law_46 : decode cL_law 46 = .ok (.aload_n 0, 1) := by decide +kernel
theorem dL_law_47 : decode cL_law 47 = .ok (.iload_n 3, 1) := by decide +kernel
theorem dL_law_48 : decode cL_law 48 = .ok (.iaload, 1) := by decide +kernel
theorem dL_law_49 : decode cL_law 49 = .ok (.bipush 7, 2) := by decide +kernel
theorem dL_law_51 : decode cL_law 51 = .ok (.iand, 1) := by decide +kernel
theorem dL_law_52 : decode cL_law 52 = .ok (.tableswitch 280 0 7 #[48, 118, 141, 174, 198, 221, 244, 257], 48) := by decide +kernel
theorem dL_law_100 : decode cL_law 100 = .ok (.aload_n 1, 1) := by decide +kernel
theorem dL_law_101 : decode cL_law 101 = .ok (.aload_n 0, 1) := by decide +kernel
theorem dL_law_102 : decode cL_law 102 = .ok (.iload_n 3, 1) := by decide +kernel
theorem dL_law_103 : decode cL_law 103 = .ok (.iconst 1, 1) := by decide +kernel
theorem dL_law_104 : decode cL_law 104 = .ok (.iadd, 1) := by decide +kernel
theorem dL_law_105 : decode cL_law 105 = .ok (.iaload, 1) := by decide +kernel
theorem dL_law_106 : decode cL_law 106 = .ok (.aload_n 0, 1) := by decide +kernel
theorem dL_law_107 : decode cL_law 107 = .ok (.iload_n 3, 1) := by decide +kernel
theorem dL_law_108 : decode cL_law 108 = .ok (.iconst 2, 1) := by decide +kernel
theorem dL_law_109 : decode cL_law 109 = .ok (.iadd, 1) := by decide +kernel
theorem dL_law_110 : decode cL_law 110 = .ok (.iaload, 1) := by decide +kernel
theorem dL_law_111 : decode cL_law 111 = .ok (.aload_n 0, 1) := by decide +kernel
theorem dL_law_112 : decode cL_law 112 = .ok (.iload_n 3, 1) := by decide +kernel
theorem dL_law_113 : decode cL_law 113 = .ok (.iconst 3, 1) := by decide +kernel
theorem dL_law_114 : decode cL_law 114 = .ok (.iadd, 1) := by decide +kernel
theorem dL_law_115 : decode cL_law 115 = .ok (.iaload, 1) := by decide +kernel
theorem dL_law_116 : decode cL_law 116 = .ok (.ifCond .eq 7, 3) := by decide +kernel
theorem dL_law_119 : decode cL_law 119 = .ok (.iconst 1, 1) := by decide +kernel
theorem dL_law_120 : decode cL_law 120 = .ok (.goto 4, 3) := by decide +kernel
theorem dL_law_123 : decode cL_law 123 = .ok (.iconst 0, 1) := by decide +kernel
theorem dL_law_124 : decode cL_law 124 = .ok (.invokestatic 27, 3) := by decide +kernel
theorem dL_law_127 : decode cL_law 127 = .ok (.istore 4, 2) := by decide +kernel
theorem dL_law_129 : decode cL_law 129 = .ok (.aload_n 2, 1) := by decide +kernel
theorem dL_law_130 : decode cL_law 130 = .ok (.aload_n 0, 1) := by decide +kernel
theorem dL_law_131 : decode cL_law 131 = .ok (.iload_n 3, 1) := by decide +kernel
theorem dL_law_132 : decode cL_law 132 = .ok (.iconst 1, 1) := by decide +kernel
theorem dL_law_133 : decode cL_law 133 = .ok (.iadd, 1) := by decide +kernel
theorem dL_law_134 : decode cL_law 134 = .ok (.iaload, 1) := by decide +kernel
theorem dL_law_135 : decode cL_law 135 = .ok (.aload_n 0, 1) := by decide +kernel
theorem dL_law_136 : decode cL_law 136 = .ok (.iload_n 3, 1) := by decide +kernel
theorem dL_law_137 : decode cL_law 137 = .ok (.iconst 2, 1) := by decide +kernel
theorem dL_law_138 : decode cL_law 138 = .ok (.iadd, 1) := by decide +kernel
theorem dL_law_139 : decode cL_law 139 = .ok (.iaload, 1) := by decide +kernel
theorem dL_law_140 : decode cL_law 140 = .ok (.aload_n 0, 1) := by decide +kernel
theorem dL_law_141 : decode cL_law 141 = .ok (.iload_n 3, 1) := by decide +kernel
theorem dL_law_142 : decode cL_law 142 = .ok (.iconst 3, 1) := by decide +kernel
theorem dL_law_143 : decode cL_law 143 = .ok (.iadd, 1) := by decide +kernel
theorem dL_law_144 : decode cL_law 144 = .ok (.iaload, 1) := by decide +kernel
theorem dL_law_145 : decode cL_law 145 = .ok (.ifCond .eq 7, 3) := by decide +kernel
theorem dL_law_148 : decode cL_law 148 = .ok (.iconst 1, 1) := by decide +kernel
theorem dL_law_149 : decode cL_law 149 = .ok (.goto 4, 3) := by decide +kernel
theorem dL_law_152 : decode cL_law 152 = .ok (.iconst 0, 1) := by decide +kernel
theorem dL_law_153 : decode cL_law 153 = .ok (.invokevirtual 30, 3) := by decide +kernel
theorem dL_law_156 : decode cL_law 156 = .ok (.aload_n 2, 1) := by decide +kernel
theorem dL_law_157 : decode cL_law 157 = .ok (.invokevirtual 31, 3) := by decide +kernel
theorem dL_law_160 : decode cL_law 160 = .ok (.iload 4, 2) := by decide +kernel
theorem dL_law_162 : decode cL_law 162 = .ok (.if_icmp .eq 5, 3) := by decide +kernel
theorem dL_law_165 : decode cL_law 165 = .ok (.iconst 0, 1) := by decide +kernel
theorem dL_law_166 : decode cL_law 166 = .ok (.ireturn, 1) := by decide +kernel
theorem dL_law_167 : decode cL_law 167 = .ok (.goto 165, 3) := by decide +kernel
theorem dL_law_170 : decode cL_law 170 = .ok (.aload_n 1, 1) := by decide +kernel
theorem dL_law_171 : decode cL_law 171 = .ok (.aload_n 0, 1) := by decide +kernel
theorem dL_law_172 : decode cL_law 172 = .ok (.iload_n 3, 1) := by decide +kernel
theorem dL_law_173 : decode cL_law 173 = .ok (.iconst 1, 1) := by decide +kernel
theorem dL_law_174 : decode cL_law 174 = .ok (.iadd, 1) := by decide +kernel
theorem dL_law_175 : decode cL_law 175 = .ok (.iaload, 1) := by decide +kernel
theorem dL_law_176 : decode cL_law 176 = .ok (.invokevirtual 35, 3) := by decide +kernel
theorem dL_law_179 : decode cL_law 179 = .ok (.aload_n 2, 1) := by decide +kernel
theorem dL_law_180 : decode cL_law 180 = .ok (.aload_n 0, 1) := by decide +kernel
theorem dL_law_181 : decode cL_law 181 = .ok (.iload_n 3, 1) := by decide +kernel
theorem dL_law_182 : decode cL_law 182 = .ok (.iconst 1, 1) := by decide +kernel
theorem dL_law_183 : decode cL_law 183 = .ok (.iadd, 1) := by decide +kernel
theorem dL_law_184 : decode cL_law 184 = .ok (.iaload, 1) := by decide +kernel
theorem dL_law_185 : decode cL_law 185 = .ok (.invokevirtual 39, 3) := by decide +kernel
theorem dL_law_188 : decode cL_law 188 = .ok (.if_icmp .eq 144, 3) := by decide +kernel
theorem dL_law_191 : decode cL_law 191 = .ok (.iconst 0, 1) := by decide +kernel
theorem dL_law_192 : decode cL_law 192 = .ok (.ireturn, 1) := by decide +kernel
theorem dL_law_193 : decode cL_law 193 = .ok (.aload_n 1, 1) := by decide +kernel
theorem dL_law_194 : decode cL_law 194 = .ok (.aload_n 0, 1) := by decide +kernel
theorem dL_law_195 : decode cL_law 195 = .ok (.iload_n 3, 1) := by decide +kernel
theorem dL_law_196 : decode cL_law 196 = .ok (.iconst 1, 1) := by decide +kernel
theorem dL_law_197 : decode cL_law 197 = .ok (.iadd, 1) := by decide +kernel
theorem dL_law_198 : decode cL_law 198 = .ok (.iaload, 1) := by decide +kernel
theorem dL_law_199 : decode cL_law 199 = .ok (.aload_n 0, 1) := by decide +kernel
theorem dL_law_200 : decode cL_law 200 = .ok (.iload_n 3, 1) := by decide +kernel
theorem dL_law_201 : decode cL_law 201 = .ok (.iconst 2, 1) := by decide +kernel
theorem dL_law_202 : decode cL_law 202 = .ok (.iadd, 1) := by decide +kernel
theorem dL_law_203 : decode cL_law 203 = .ok (.iaload, 1) := by decide +kernel
theorem dL_law_204 : decode cL_law 204 = .ok (.invokevirtual 40, 3) := by decide +kernel
theorem dL_law_207 : decode cL_law 207 = .ok (.aload_n 2, 1) := by decide +kernel
theorem dL_law_208 : decode cL_law 208 = .ok (.aload_n 0, 1) := by decide +kernel
theorem dL_law_209 : decode cL_law 209 = .ok (.iload_n 3, 1) := by decide +kernel
theorem dL_law_210 : decode cL_law 210 = .ok (.iconst 1, 1) := by decide +kernel
theorem dL_law_211 : decode cL_law 211 = .ok (.iadd, 1) := by decide +kernel
theorem dL_law_212 : decode cL_law 212 = .ok (.iaload, 1) := by decide +kernel
theorem dL_law_213 : decode cL_law 213 = .ok (.aload_n 0, 1) := by decide +kernel
theorem dL_law_214 : decode cL_law 214 = .ok (.iload_n 3, 1) := by decide +kernel
theorem dL_law_215 : decode cL_law 215 = .ok (.iconst 2, 1) := by decide +kernel
theorem dL_law_216 : decode cL_law 216 = .ok (.iadd, 1) := by decide +kernel
theorem dL_law_217 : decode cL_law 217 = .ok (.iaload, 1) := by decide +kernel
theorem dL_law_218 : decode cL_law 218 = .ok (.invokevirtual 44, 3) := by decide +kernel
theorem dL_law_221 : decode cL_law 221 = .ok (.if_icmp .eq 111, 3) := by decide +kernel
theorem dL_law_224 : decode cL_law 224 = .ok (.iconst 0, 1) := by decide +kernel
theorem dL_law_225 : decode cL_law 225 = .ok (.ireturn, 1) := by decide +kernel
theorem dL_law_226 : decode cL_law 226 = .ok (.aload_n 1, 1) := by decide +kernel
theorem dL_law_227 : decode cL_law 227 = .ok (.aload_n 0, 1) := by decide +kernel
theorem dL_law_228 : decode cL_law 228 = .ok (.iload_n 3, 1) := by decide +kernel
theorem dL_law_229 : decode cL_law 229 = .ok (.iconst 1, 1) := by decide +kernel
theorem dL_law_230 : decode cL_law 230 = .ok (.iadd, 1) := by decide +kernel
theorem dL_law_231 : decode cL_law 231 = .ok (.iaload, 1) := by decide +kernel
theorem dL_law_232 : decode cL_law 232 = .ok (.invokevirtual 45, 3) := by decide +kernel
theorem dL_law_235 : decode cL_law 235 = .ok (.aload_n 2, 1) := by decide +kernel
theorem dL_law_236 : decode cL_law 236 = .ok (.aload_n 0, 1) := by decide +kernel
theorem dL_law_237 : decode cL_law 237 = .ok (.iload_n 3, 1) := by decide +kernel
theorem dL_law_238 : decode cL_law 238 = .ok (.iconst 1, 1) := by decide +kernel
theorem dL_law_239 : decode cL_law 239 = .ok (.iadd, 1) := by decide +kernel
theorem dL_law_240 : decode cL_law 240 = .ok (.iaload, 1) := by decide +kernel
theorem dL_law_241 : decode cL_law 241 = .ok (.invokevirtual 49, 3) := by decide +kernel
theorem dL_law_244 : decode cL_law 244 = .ok (.lcmp, 1) := by decide +kernel
theorem dL_law_245 : decode cL_law 245 = .ok (.ifCond .eq 87, 3) := by decide +kernel
theorem dL_law_248 : decode cL_law 248 = .ok (.iconst 0, 1) := by decide +kernel
theorem dL_law_249 : decode cL_law 249 = .ok (.ireturn, 1) := by decide +kernel
theorem dL_law_250 : decode cL_law 250 = .ok (.aload_n 1, 1) := by decide +kernel
theorem dL_law_251 : decode cL_law 251 = .ok (.aload_n 0, 1) := by decide +kernel
theorem dL_law_252 : decode cL_law 252 = .ok (.iload_n 3, 1) := by decide +kernel
theorem dL_law_253 : decode cL_law 253 = .ok (.iconst 1, 1) := by decide +kernel
theorem dL_law_254 : decode cL_law 254 = .ok (.iadd, 1) := by decide +kernel
theorem dL_law_255 : decode cL_law 255 = .ok (.iaload, 1) := by decide +kernel
theorem dL_law_256 : decode cL_law 256 = .ok (.invokevirtual 50, 3) := by decide +kernel
theorem dL_law_259 : decode cL_law 259 = .ok (.aload_n 2, 1) := by decide +kernel
theorem dL_law_260 : decode cL_law 260 = .ok (.aload_n 0, 1) := by decide +kernel
theorem dL_law_261 : decode cL_law 261 = .ok (.iload_n 3, 1) := by decide +kernel
theorem dL_law_262 : decode cL_law 262 = .ok (.iconst 1, 1) := by decide +kernel
theorem dL_law_263 : decode cL_law 263 = .ok (.iadd, 1) := by decide +kernel
theorem dL_law_264 : decode cL_law 264 = .ok (.iaload, 1) := by decide +kernel
theorem dL_law_265 : decode cL_law 265 = .ok (.invokevirtual 53, 3) := by decide +kernel
theorem dL_law_268 : decode cL_law 268 = .ok (.if_icmp .eq 64, 3) := by decide +kernel
theorem dL_law_271 : decode cL_law 271 = .ok (.iconst 0, 1) := by decide +kernel
theorem dL_law_272 : decode cL_law 272 = .ok (.ireturn, 1) := by decide +kernel
theorem dL_law_273 : decode cL_law 273 = .ok (.aload_n 1, 1) := by decide +kernel
theorem dL_law_274 : decode cL_law 274 = .ok (.aload_n 0, 1) := by decide +kernel
theorem dL_law_275 : decode cL_law 275 = .ok (.iload_n 3, 1) := by decide +kernel
theorem dL_law_276 : decode cL_law 276 = .ok (.iconst 1, 1) := by decide +kernel
theorem dL_law_277 : decode cL_law 277 = .ok (.iadd, 1) := by decide +kernel
theorem dL_law_278 : decode cL_law 278 = .ok (.iaload, 1) := by decide +kernel
theorem dL_law_279 : decode cL_law 279 = .ok (.invokevirtual 54, 3) := by decide +kernel
theorem dL_law_282 : decode cL_law 282 = .ok (.aload_n 2, 1) := by decide +kernel
theorem dL_law_283 : decode cL_law 283 = .ok (.aload_n 0, 1) := by decide +kernel
theorem dL_law_284 : decode cL_law 284 = .ok (.iload_n 3, 1) := by decide +kernel
theorem dL_law_285 : decode cL_law 285 = .ok (.iconst 1, 1) := by decide +kernel
theorem dL_law_286 : decode cL_law 286 = .ok (.iadd, 1) := by decide +kernel
theorem dL_law_287 : decode cL_law 287 = .ok (.iaload, 1) := by decide +kernel
theorem dL_law_288 : decode cL_law 288 = .ok (.invokevirtual 57, 3) := by decide +kernel
theorem dL_law_291 : decode cL_law 291 = .ok (.if_icmp .eq 41, 3) := by decide +kernel
theorem dL_law_294 : decode cL_law 294 = .ok (.iconst 0, 1) := by decide +kernel
theorem dL_law_295 : decode cL_law 295 = .ok (.ireturn, 1) := by decide +kernel
theorem dL_law_296 : decode cL_law 296 = .ok (.aload_n 1, 1) := by decide +kernel
theorem dL_law_297 : decode cL_law 297 = .ok (.invokevirtual 58, 3) := by decide +kernel
theorem dL_law_300 : decode cL_law 300 = .ok (.aload_n 2, 1) := by decide +kernel
theorem dL_law_301 : decode cL_law 301 = .ok (.invokevirtual 61, 3) := by decide +kernel
theorem dL_law_304 : decode cL_law 304 = .ok (.if_icmp .eq 28, 3) := by decide +kernel
theorem dL_law_307 : decode cL_law 307 = .ok (.iconst 0, 1) := by decide +kernel
theorem dL_law_308 : decode cL_law 308 = .ok (.ireturn, 1) := by decide +kernel
theorem dL_law_309 : decode cL_law 309 = .ok (.aload_n 1, 1) := by decide +kernel
theorem dL_law_310 : decode cL_law 310 = .ok (.aload_n 0, 1) := by decide +kernel
theorem dL_law_311 : decode cL_law 311 = .ok (.iload_n 3, 1) := by decide +kernel
theorem dL_law_312 : decode cL_law 312 = .ok (.iconst 1, 1) := by decide +kernel
theorem dL_law_313 : decode cL_law 313 = .ok (.iadd, 1) := by decide +kernel
theorem dL_law_314 : decode cL_law 314 = .ok (.iaload, 1) := by decide +kernel
theorem dL_law_315 : decode cL_law 315 = .ok (.invokevirtual 62, 3) := by decide +kernel
theorem dL_law_318 : decode cL_law 318 = .ok (.aload_n 2, 1) := by decide +kernel
theorem dL_law_319 : decode cL_law 319 = .ok (.aload_n 0, 1) := by decide +kernel
theorem dL_law_320 : decode cL_law 320 = .ok (.iload_n 3, 1) := by decide +kernel
theorem dL_law_321 : decode cL_law 321 = .ok (.iconst 1, 1) := by decide +kernel
theorem dL_law_322 : decode cL_law 322 = .ok (.iadd, 1) := by decide +kernel
theorem dL_law_323 : decode cL_law 323 = .ok (.iaload, 1) := by decide +kernel
theorem dL_law_324 : decode cL_law 324 = .ok (.invokevirtual 65, 3) := by decide +kernel
theorem dL_law_327 : decode cL_law 327 = .ok (.if_icmp .eq 5, 3) := by decide +kernel
theorem dL_law_330 : decode cL_law 330 = .ok (.iconst 0, 1) := by decide +kernel
theorem dL_law_331 : decode cL_law 331 = .ok (.ireturn, 1) := by decide +kernel
theorem dL_law_332 : decode cL_law 332 = .ok (.iinc 3 4, 3) := by decide +kernel
theorem dL_law_335 : decode cL_law 335 = .ok (.goto (-297), 3) := by decide +kernel
theorem dL_law_338 : decode cL_law 338 = .ok (.iconst 1, 1) := by decide +kernel
theorem dL_law_339 : decode cL_law 339 = .ok (.ireturn, 1) := by decide +kernel
abbrev vwCl : List vw_C := [(RJx00060, TJx00060, 6), (RX0, TX0, 11), (RX1, TX1, 17)]
end
section
/-! ===== MY ROWS: indices by their numbers, calls within one world ===== -/
/-- an index: the number of a place -/
def pIn (i : Int32) (n : Nat) (K : Nat → Prop) : Prop := ∃ j : Nat, i = nI j ∧ j < n ∧ j < 2 ^ 31 ∧ K j
/-- System.arraycopy: where from, where to, how many -/
def pCpy (sp dp n : Int32) (n0 n1 : Nat) (K : Nat → Nat → Nat → Prop) : Prop := ∃ a b k : Nat, sp = nI a ∧ dp = nI b ∧ n = nI k ∧ a + k ≤ n0 ∧ b + k ≤ n1 ∧ a + k < 2 ^ 31 ∧ b + k < 2 ^ 31 ∧ K a b k
/-- a boolean -/
def pZ (v : Int32) : Prop := v = 0 ∨ v = 1
def zShl (x : Int64) (y : Int32) : Int64 := x <<< (y.toInt64 &&& 63)
def zUshr (x : Int64) (y : Int32) : Int64 := (x.toUInt64 >>> (y.toInt64.toUInt64 &&& Int64.toUInt64 63)).toInt64
def zMax (x y : Int32) : Int32 := if x < y then y else x
def zMin (x y : Int32) : Int32 := if y < x then y else x
theorem z_in {i : Int32} {n j : Nat} (e : i = nI j) (h : j < n) (h2 : j < 2 ^ 31) : vp_in i n := by
  rw [vp_in_iff, e, nI_toInt h2]
  omega
theorem z_nz {v : Int32} (h : pZ v) : narrow .boolean (.int v) = .int v := by
  rcases h with rfl | rfl <;> rfl
def zC (p : Program) (s : State) (m : MethodId) (args : Array Value) (meth : Method) (c : Code) (cc : ByteArray) (ws : List Cond) (ret : Option FieldType) (nL : Nat) (own : String) : Prop := p.tables.exec = Jvm.exec ∧ c.code = cc ∧ meth.sig.returnType = ret ∧ c.maxLocals = nL ∧ s.vm.findClass own = some m.cls ∧ (∀ w ∈ ws, w.before args s = true) ∧ meth.locks = false
/-- the start of a method that reads a world -/
def zPc (D : va_G) (cl : List vw_C) (tys : List (ClassId × FieldType)) (w : va_W) (av : List Value) : Array Value → State → Prop := va_Pc av (fun U => va_P D cl w U.heap ∧ va_K D cl tys U)
theorem zPc_blind {D : va_G} {cl : List vw_C} {tys : List (ClassId × FieldType)} {w : va_W} {av : List Value} : FrameBlind (zPc D cl tys w av) := fun a U g mk q => by
  obtain ⟨q0, qP, qK⟩ := q
  exact ⟨q0, qP, va_K.moved (u := U) (U := U.calling g mk a) (Vm.Alike.refl U.vm) qK⟩
/-- the start of a method that writes a world -/
def zPw (D : va_G) (cl : List vw_C) (tys : List (ClassId × FieldType)) (w : va_W) (sz : Nat) (av : List Value) : Array Value → State → Prop := va_Pc av (fun U => U.heap.size = sz ∧ va_P D cl w U.heap ∧ va_K D cl tys U ∧ va_D (fun _ => True) w)
theorem zPw_blind {D : va_G} {cl : List vw_C} {tys : List (ClassId × FieldType)} {w : va_W} {sz : Nat} {av : List Value} : FrameBlind (zPw D cl tys w sz av) := fun a U g mk q => by
  obtain ⟨q0, q1, qP, qK, qD⟩ := q
  exact ⟨q0, q1, qP, va_K.moved (u := U) (U := U.calling g mk a) (Vm.Alike.refl U.vm) qK, qD⟩
/-- the world behind such a method -/
def zB {S : Type} (D : va_G) (cl : List vw_C) (tys : List (ClassId × FieldType)) (w : va_W) (sz : Nat) (wo : S → va_W) : S → State → Prop := fun u t => va_P D cl (wo u) t.heap ∧ va_K D cl tys t ∧ va_D (va_A w sz) (wo u)
section ZR
variable {p : Program} {l : Launch} {e : Env} {R : Room} {s : State} {m : MethodId} {args : Array Value} {below : List Frame} {meth : Method} {c : Code} {H : Heap} {locs : List Loc} {cells slots : Nat} {Q : State → Prop}
variable {cc : ByteArray} {pc : Nat} {ls : Array Slot} {rest : List Value} {D : va_G} {cl : List vw_C} {tys : List (ClassId × FieldType)} {ws : va_W} {A : Nat → Prop} {H0 : Heap} {a : Nat}
theorem z_iald (hexec : p.tables.exec = Jvm.exec) (hb : c.code = cc) (hK : va_K D cl tys s) (hP : va_P D cl ws H) (q0 t0 : Nat) {cA : ClassId} {n : Nat} {f : Nat → Int32} (ha : ws[q0]? = some (a, .inl (cA, n, .inl f))) (ht : tys[t0]? = some (cA, .int)) {i : Int32} {K : Nat → Prop} (h : pIn i n K) (hdg : decode cc pc = .ok (.iaload, 1))
    (kk : ∀ j : Nat, K j → W p l e R s m args below meth c H locs cells slots Q (F0 m (pc + 1) ls (.int (f j) :: rest))) : W p l e R s m args below meth c H locs cells slots Q (F0 m pc ls (.int i :: .ref a :: rest)) := by
  obtain ⟨j, e1, h1, h2, h3⟩ := h
  refine va_iald hexec hb hK hP q0 t0 ha ht (z_in e1 h1 h2) hdg ?_
  subst e1
  rw [nI_clamp h2]
  exact kk j h3
theorem z_zald (hexec : p.tables.exec = Jvm.exec) (hb : c.code = cc) (hK : va_K D cl tys s) (hP : va_P D cl ws H) (q0 t0 : Nat) {cA : ClassId} {n : Nat} {f : Nat → Int32} (ha : ws[q0]? = some (a, .inl (cA, n, .inl f))) (ht : tys[t0]? = some (cA, .boolean)) {i : Int32} {K : Nat → Prop} (h : pIn i n K) (hdg : decode cc pc = .ok (.baload, 1))
    (kk : ∀ j : Nat, K j → W p l e R s m args below meth c H locs cells slots Q (F0 m (pc + 1) ls (.int (f j) :: rest))) : W p l e R s m args below meth c H locs cells slots Q (F0 m pc ls (.int i :: .ref a :: rest)) := by
  obtain ⟨j, e1, h1, h2, h3⟩ := h
  refine va_zald hexec hb hK hP q0 t0 ha ht (z_in e1 h1 h2) hdg ?_
  subst e1
  rw [nI_clamp h2]
  exact kk j h3
theorem z_lald (hexec : p.tables.exec = Jvm.exec) (hb : c.code = cc) (hK : va_K D cl tys s) (hP : va_P D cl ws H) (q0 t0 : Nat) {cA : ClassId} {n : Nat} {f : Nat → Int64} (ha : ws[q0]? = some (a, .inl (cA, n, .inr (.inl f)))) (ht : tys[t0]? = some (cA, .long)) {i : Int32} {K : Nat → Prop} (h : pIn i n K) (hdg : decode cc pc = .ok (.laload, 1))
    (kk : ∀ j : Nat, K j → W p l e R s m args below meth c H locs cells slots Q (F0 m (pc + 1) ls (.long (f j) :: rest))) : W p l e R s m args below meth c H locs cells slots Q (F0 m pc ls (.int i :: .ref a :: rest)) := by
  obtain ⟨j, e1, h1, h2, h3⟩ := h
  refine va_lald hexec hb hK hP q0 t0 ha ht (z_in e1 h1 h2) hdg ?_
  subst e1
  rw [nI_clamp h2]
  exact kk j h3
theorem z_iast (hexec : p.tables.exec = Jvm.exec) (hb : c.code = cc) (hK : va_K D cl tys s) (hP : va_P D cl ws H) (hD : va_D A ws) (hS : va_S A H0 H locs) (q0 t0 : Nat) {cA : ClassId} {n : Nat} {f : Nat → Int32} (ha : ws[q0]? = some (a, .inl (cA, n, .inl f))) (ht : tys[t0]? = some (cA, .int)) {i : Int32} {x : Int32} {K : Nat → Prop} (h : pIn i n K) (hdg : decode cc pc = .ok (.iastore, 1))
    (kk : ∀ (j : Nat) (H1 : Heap) (locs1 : List Loc), K j → va_P D cl (ws.set q0 (a, .inl (cA, n, .inl (upd f j x)))) H1 → va_D A (ws.set q0 (a, .inl (cA, n, .inl (upd f j x)))) → va_S A H0 H1 locs1 → W p l e R s m args below meth c H1 locs1 cells slots Q (F0 m (pc + 1) ls rest)) : W p l e R s m args below meth c H locs cells slots Q (F0 m pc ls (.int x :: .int i :: .ref a :: rest)) := by
  obtain ⟨j, e1, h1, h2, h3⟩ := h
  refine va_iast hexec hb hK hP hD hS q0 t0 ha ht (z_in e1 h1 h2) hdg (fun H1 locs1 k1 k2 k3 => ?_)
  subst e1
  rw [nI_clamp h2] at k1 k2
  exact kk j H1 locs1 h3 k1 k2 k3
theorem z_zast (hexec : p.tables.exec = Jvm.exec) (hb : c.code = cc) (hK : va_K D cl tys s) (hP : va_P D cl ws H) (hD : va_D A ws) (hS : va_S A H0 H locs) (q0 t0 : Nat) {cA : ClassId} {n : Nat} {f : Nat → Int32} (ha : ws[q0]? = some (a, .inl (cA, n, .inl f))) (ht : tys[t0]? = some (cA, .boolean)) {i : Int32} {x : Int32} {K : Nat → Prop} (h : pIn i n K) (hdg : decode cc pc = .ok (.bastore, 1))
    (kk : ∀ (j : Nat) (H1 : Heap) (locs1 : List Loc), K j → va_P D cl (ws.set q0 (a, .inl (cA, n, .inl (upd f j (vp_nar .boolean x))))) H1 → va_D A (ws.set q0 (a, .inl (cA, n, .inl (upd f j (vp_nar .boolean x))))) → va_S A H0 H1 locs1 → W p l e R s m args below meth c H1 locs1 cells slots Q (F0 m (pc + 1) ls rest)) : W p l e R s m args below meth c H locs cells slots Q (F0 m pc ls (.int x :: .int i :: .ref a :: rest)) := by
  obtain ⟨j, e1, h1, h2, h3⟩ := h
  refine va_zast hexec hb hK hP hD hS q0 t0 ha ht (z_in e1 h1 h2) hdg (fun H1 locs1 k1 k2 k3 => ?_)
  subst e1
  rw [nI_clamp h2] at k1 k2
  exact kk j H1 locs1 h3 k1 k2 k3
theorem z_last (hexec : p.tables.exec = Jvm.exec) (hb : c.code = cc) (hK : va_K D cl tys s) (hP : va_P D cl ws H) (hD : va_D A ws) (hS : va_S A H0 H locs) (q0 t0 : Nat) {cA : ClassId} {n : Nat} {f : Nat → Int64} (ha : ws[q0]? = some (a, .inl (cA, n, .inr (.inl f)))) (ht : tys[t0]? = some (cA, .long)) {i : Int32} {x : Int64} {K : Nat → Prop} (h : pIn i n K) (hdg : decode cc pc = .ok (.lastore, 1))
    (kk : ∀ (j : Nat) (H1 : Heap) (locs1 : List Loc), K j → va_P D cl (ws.set q0 (a, .inl (cA, n, .inr (.inl (vp_updL f j x))))) H1 → va_D A (ws.set q0 (a, .inl (cA, n, .inr (.inl (vp_updL f j x))))) → va_S A H0 H1 locs1 → W p l e R s m args below meth c H1 locs1 cells slots Q (F0 m (pc + 1) ls rest)) : W p l e R s m args below meth c H locs cells slots Q (F0 m pc ls (.long x :: .int i :: .ref a :: rest)) := by
  obtain ⟨j, e1, h1, h2, h3⟩ := h
  refine va_last hexec hb hK hP hD hS q0 t0 ha ht (z_in e1 h1 h2) hdg (fun H1 locs1 k1 k2 k3 => ?_)
  subst e1
  rw [nI_clamp h2] at k1 k2
  exact kk j H1 locs1 h3 k1 k2 k3
theorem z_copyi (hexec : p.tables.exec = Jvm.exec) (hb : c.code = cc) (hml : c.maxLocals = ls.size) {own : String} {index : Nat} (hown : s.vm.findClass own = some m.cls) (hlink : (Cond.methodLink own index arraycopyName).before args s = true) (hnat : (Cond.native arraycopyName).before args s = true) (hstat : (Cond.static arraycopyName).before args s = true) (hini : (Cond.initialized "java/lang/System").before args s = true)
    (hK : va_K D cl tys s) (hP : va_P D cl ws H) (hD : va_D A ws) (hS : va_S A H0 H locs) (q0 q1 t0 t1 : Nat) {a0 : Nat} {c0 c1 : ClassId} {n0 n1 : Nat} {f g : Nat → Int32} (ha0 : ws[q0]? = some (a0, .inl (c0, n0, .inl f))) (ha1 : ws[q1]? = some (a, .inl (c1, n1, .inl g))) (ht0 : tys[t0]? = some (c0, .int)) (ht1 : tys[t1]? = some (c1, .int))
    {sp dp n : Int32} {K : Nat → Nat → Nat → Prop} (h : pCpy sp dp n n0 n1 K)
    (hframes : 1 ≤ R.frames) (hlocals : (rest.map fun v => v.category).sum + (nativeFrameWords "java/lang/System" "arraycopy" 5 + 11) ≤ R.locals) (hdg : decode cc pc = .ok (.invokestatic index, 3))
    (kk : ∀ (i j k : Nat) (H1 : Heap) (locs1 : List Loc), K i j k → va_P D cl (ws.set q1 (a, .inl (c1, n1, .inl (va_cpy f g i j k)))) H1 → va_D A (ws.set q1 (a, .inl (c1, n1, .inl (va_cpy f g i j k)))) → va_S A H0 H1 locs1 → W p l e R s m args below meth c H1 locs1 cells slots Q (F0 m (pc + 3) ls rest)) : W p l e R s m args below meth c H locs cells slots Q (F0 m pc ls (.int n :: .int dp :: .ref a :: .int sp :: .ref a0 :: rest)) := by
  obtain ⟨i, j, k, e1, e2, e3, h1, h2, h3, h4, h5⟩ := h
  subst e1; subst e2; subst e3
  refine va_copyi hexec hb hml hown hlink hnat hstat hini hK hP hD hS q0 q1 t0 t1 ha0 ha1 ht0 ht1 rfl (nI_pos (by omega)) (nI_pos (by omega)) (nI_pos (by omega)) (by rw [nI_clamp (by omega), nI_clamp (by omega)]; exact h1) (by rw [nI_clamp (by omega), nI_clamp (by omega)]; exact h2) (fun _ _ => rfl) hframes hlocals hdg (fun H1 locs1 k1 k2 k3 => ?_)
  rw [nI_clamp (by omega), nI_clamp (by omega), nI_clamp (by omega)] at k1 k2
  exact kk i j k H1 locs1 h5 k1 k2 k3
variable {y : MethodName} {bytes : ByteArray} {maxL nL n index : Nat} {ret : Option FieldType} {wy : List Cond} {rm : Room} {Ts : List Cond} {own C : String} {As st0 : List Value} {b : Nat}
theorem z_cVi {post : Int32 → Prop} {ci : Nat} {q : vw_C} {fs : List Value} (SF : CallFix p m c cc nL s args Ts own) (hM : Met l y wy rm (zPc D cl tys ws (.ref b :: As)) (vp_Si post) 0 0 (fun _ => False)) (cw : CallW R s args own C index y bytes maxL ret wy rm 0 0 n) (hK : va_K D cl tys s) (hP : va_P D cl ws H) (q0 : Nat) (hc : cl[ci]? = some q) (he : ws[q0]? = some (b, .inr (ci, fs))) (hq : q.1 = C) (hn : As.length = n) (hsize : ls.size = nL) (hst : st0 = As.reverse ++ .ref b :: rest) (hW : (rest.map fun v => v.category).sum ≤ 8) (hdg : decode cc pc = .ok (.invokevirtual index, 3)) (hf : cells ≤ R.cells ∧ slots ≤ R.slots)
    (kk : ∀ r : Int32, post r → W p l e R s m args below meth c H locs cells slots Q (F0 m (pc + 3) ls (.int r :: rest))) : W p l e R s m args below meth c H locs cells slots Q (F0 m pc ls st0) := by
  subst hq
  exact vp_callSi (W.runV SF hM cw ⟨zPc_blind, va_recv hK hP hc he, fun U hU hW => ⟨rfl, by rw [hU]; exact hP, va_K.moved hW.alike hK⟩⟩ rfl hn hsize hst (lv_room hW) hdg hf) kk
theorem z_cVl {post : Int64 → Prop} {ci : Nat} {q : vw_C} {fs : List Value} (SF : CallFix p m c cc nL s args Ts own) (hM : Met l y wy rm (zPc D cl tys ws (.ref b :: As)) (vp_Sl post) 0 0 (fun _ => False)) (cw : CallW R s args own C index y bytes maxL ret wy rm 0 0 n) (hK : va_K D cl tys s) (hP : va_P D cl ws H) (q0 : Nat) (hc : cl[ci]? = some q) (he : ws[q0]? = some (b, .inr (ci, fs))) (hq : q.1 = C) (hn : As.length = n) (hsize : ls.size = nL) (hst : st0 = As.reverse ++ .ref b :: rest) (hW : (rest.map fun v => v.category).sum ≤ 8) (hdg : decode cc pc = .ok (.invokevirtual index, 3)) (hf : cells ≤ R.cells ∧ slots ≤ R.slots)
    (kk : ∀ r : Int64, post r → W p l e R s m args below meth c H locs cells slots Q (F0 m (pc + 3) ls (.long r :: rest))) : W p l e R s m args below meth c H locs cells slots Q (F0 m pc ls st0) := by
  subst hq
  exact vp_callSl (W.runV SF hM cw ⟨zPc_blind, va_recv hK hP hc he, fun U hU hW => ⟨rfl, by rw [hU]; exact hP, va_K.moved hW.alike hK⟩⟩ rfl hn hsize hst (lv_room hW) hdg hf) kk
theorem z_cSi {post : Int32 → Prop} (SF : CallFix p m c cc nL s args Ts own) (hM : Met l y wy rm (va_Pc As (fun _ => True)) (vp_Si post) 0 0 (fun _ => False)) (cw : CallB R s args own index y bytes maxL ret wy rm 0 0 n ∧ (Cond.static y).before args s = true) (hn : As.length = n) (hsize : ls.size = nL) (hst : st0 = As.reverse ++ rest) (hW : (rest.map fun v => v.category).sum ≤ 8) (hdg : decode cc pc = .ok (.invokestatic index, 3)) (hf : cells ≤ R.cells ∧ slots ≤ R.slots)
    (kk : ∀ r : Int32, post r → W p l e R s m args below meth c H locs cells slots Q (F0 m (pc + 3) ls (.int r :: rest))) : W p l e R s m args below meth c H locs cells slots Q (F0 m pc ls st0) :=
  vp_callSi (W.runS SF hM cw ⟨fun _ _ _ _ q => q, fun _ _ _ => ⟨rfl, trivial⟩⟩ rfl hn hsize hst (lv_room hW) hdg hf) kk
theorem z_cVv {S : Type} {post : S → Prop} {wo : S → va_W} {ci : Nat} {q : vw_C} {fs : List Value} (SF : CallFix p m c cc nL s args Ts own) (hM : Met l y wy rm (zPw D cl tys ws H.size (.ref b :: As)) (va_Qv post (zB D cl tys ws H.size wo) (va_A ws H.size)) 0 0 (va_A ws H.size)) (cw : CallW R s args own C index y bytes maxL ret wy rm 0 0 n) (hK : va_K D cl tys s) (hP : va_P D cl ws H) (hD : va_D A ws) (hS : va_S A H0 H locs) (hA : ∀ q, H0.size ≤ q → A q) (q0 : Nat) (hc : cl[ci]? = some q) (he : ws[q0]? = some (b, .inr (ci, fs))) (hq : q.1 = C) (hn : As.length = n) (hsize : ls.size = nL) (hst : st0 = As.reverse ++ .ref b :: rest) (hW : (rest.map fun v => v.category).sum ≤ 8) (hdg : decode cc pc = .ok (.invokevirtual index, 3)) (hf : cells ≤ R.cells ∧ slots ≤ R.slots)
    (kk : ∀ (u : S) (H1 : Heap) (locs1 : List Loc), post u → va_P D cl (wo u) H1 → va_D A (wo u) → va_S A H0 H1 locs1 → W p l e R s m args below meth c H1 locs1 cells slots Q (F0 m (pc + 3) ls rest)) : W p l e R s m args below meth c H locs cells slots Q (F0 m pc ls st0) := by
  subst hq
  have hF : ∀ q, va_A ws H.size q → A q := fun q h => h.elim (fun ⟨k, e, hk⟩ => hD.2 k _ hk) (fun h => hA q (Nat.le_trans hS.1 h))
  refine va_callv (va_runV SF hM cw ⟨zPw_blind, va_recv hK hP hc he, fun U hU hW => ⟨rfl, by rw [hU], by rw [hU]; exact hP, va_K.moved hW.alike hK, hD.weaken (fun _ _ _ _ => trivial)⟩⟩ rfl hn hsize hst (lv_room hW) hdg hf) hS (fun q _ h => hF q h) hF (fun u t H1 locs1 ht hvm hw hB hz hk hS1 => ?_)
  obtain ⟨h1, h2, h3⟩ := hB
  rw [ht] at h1
  exact kk u H1 locs1 hw h1 (h3.weaken (fun _ _ _ h => hF _ h)) hS1
theorem z_cVwi {S : Type} {post : Int32 → S → Prop} {wo : S → va_W} {ci : Nat} {q : vw_C} {fs : List Value} (SF : CallFix p m c cc nL s args Ts own) (hM : Met l y wy rm (zPw D cl tys ws H.size (.ref b :: As)) (va_Qi post (zB D cl tys ws H.size wo) (va_A ws H.size)) 0 0 (va_A ws H.size)) (cw : CallW R s args own C index y bytes maxL ret wy rm 0 0 n) (hK : va_K D cl tys s) (hP : va_P D cl ws H) (hD : va_D A ws) (hS : va_S A H0 H locs) (hA : ∀ q, H0.size ≤ q → A q) (q0 : Nat) (hc : cl[ci]? = some q) (he : ws[q0]? = some (b, .inr (ci, fs))) (hq : q.1 = C) (hn : As.length = n) (hsize : ls.size = nL) (hst : st0 = As.reverse ++ .ref b :: rest) (hW : (rest.map fun v => v.category).sum ≤ 8) (hdg : decode cc pc = .ok (.invokevirtual index, 3)) (hf : cells ≤ R.cells ∧ slots ≤ R.slots)
    (kk : ∀ (r : Int32) (u : S) (H1 : Heap) (locs1 : List Loc), post r u → va_P D cl (wo u) H1 → va_D A (wo u) → va_S A H0 H1 locs1 → W p l e R s m args below meth c H1 locs1 cells slots Q (F0 m (pc + 3) ls (.int r :: rest))) : W p l e R s m args below meth c H locs cells slots Q (F0 m pc ls st0) := by
  subst hq
  have hF : ∀ q, va_A ws H.size q → A q := fun q h => h.elim (fun ⟨k, e, hk⟩ => hD.2 k _ hk) (fun h => hA q (Nat.le_trans hS.1 h))
  refine va_calli (va_runV SF hM cw ⟨zPw_blind, va_recv hK hP hc he, fun U hU hW => ⟨rfl, by rw [hU], by rw [hU]; exact hP, va_K.moved hW.alike hK, hD.weaken (fun _ _ _ _ => trivial)⟩⟩ rfl hn hsize hst (lv_room hW) hdg hf) hS (fun q _ h => hF q h) hF (fun r u t H1 locs1 ht hvm hw hB hz hk hS1 => ?_)
  obtain ⟨h1, h2, h3⟩ := hB
  rw [ht] at h1
  exact kk r u H1 locs1 hw h1 (h3.weaken (fun _ _ _ h => hF _ h)) hS1
end ZR
/-- a switch over 0 .. 5 -/
theorem z_sw6 (x : Int32) : x = 0 ∨ x = 1 ∨ x = 2 ∨ x = 3 ∨ x = 4 ∨ x = 5 ∨ ((¬ x = 0 ∧ ¬ x = 1 ∧ ¬ x = 2 ∧ ¬ x = 3 ∧ ¬ x = 4 ∧ ¬ x = 5) ∧ (x.toInt < 0 ∨ 5 < x.toInt)) := by
  have k : ∀ n : Int32, x = n ↔ x.toInt = n.toInt := fun n => Int32.toInt_inj.symm
  rw [k 0, k 1, k 2, k 3, k 4, k 5]
  have e0 : (0 : Int32).toInt = 0 := rfl
  have e1 : (1 : Int32).toInt = 1 := rfl
  have e2 : (2 : Int32).toInt = 2 := rfl
  have e3 : (3 : Int32).toInt = 3 := rfl
  have e4 : (4 : Int32).toInt = 4 := rfl
  have e5 : (5 : Int32).toInt = 5 := rfl
  rw [e0, e1, e2, e3, e4, e5]
  omega
/-- a contract by a walk, of a method in whose place nothing of the model's own is run -/
theorem z_ofWF {l : Launch} {y : MethodName} {ws ws' : List Cond} {rm : Room} {Pc : Array Value → State → Prop} {Qc : Array Value → State → Outcome → State → Prop} {mc ms : Nat} {free : Addr → Prop} {cc : ByteArray} {maxL : Nat} {ret : Option FieldType}
    (hy : plainFor y = true) (hw : ws = Cond.code y cc maxL ret :: ws')
    (body : ∀ p e s m args below meth c s₁, BodyLoose p l y (headSpec ws rm) cc maxL ret e s m args below meth c s₁ → c.maxLocals = maxL → Pc args s →
      W p l e (headSpec ws rm).room s m args below meth c s.heap [] 0 0 (MQ below Qc args s mc ms free) (entryFrame m args maxL)) : Met l y ws rm Pc Qc mc ms free := by
  refine MetFree.of_bodySF (code := cc) (maxLocals := maxL) (ret := ret) hy ?_ ?_
  · intro args s m h hn
    obtain ⟨meth, c, h1, h2, h3, h4, h5, h6, -, -⟩ := Cond.code_spec hn (atoms_spec (ws := ws) h _ (by rw [hw]; exact List.mem_cons_self))
    exact ⟨meth, c, h1, h2, h3, h4, h5, h6⟩
  · intro p e s m args below meth c s₁ B hml hP _
    have hh0 : s₁.heap = s.heap := by rw [B.state]; rfl
    obtain ⟨t, a1, o, b1, b2, b3⟩ := body p e s m args below meth c s₁ B hml hP s₁ hh0 (Stand.of_body B)
    exact ⟨t, o, a1, b1, b2, ⟨b3.1, b3.2⟩⟩
theorem z_plain_floorDiv : plainFor yJ9_floorDiv_7cf53 = true := by decide +kernel
end
section
/-! ===== PRINTED BY wip/gen/gen.py: what each method asks and does, over numbers and rows ===== -/
abbrev wX0 (ad : Nat → Nat) (cA : Nat → ClassId) (nW : Nat) (nH : Nat) (ff : Int32) (fd : Int32) (cols : Nat → Int64) (rows : Nat → Int64) (ends : Nat → Int64) (ecost : Nat → Int32) (ecnt : Nat → Int32) (tails : Nat → Int32) (longer : Nat → Int32) : va_W := [(ad 0, .inr (1, [.int (nI nW), .int (nI nH), .ref (ad 1), .ref (ad 2), .ref (ad 3), .ref (ad 4), .ref (ad 5), .int ff, .int fd, .ref (ad 6), .ref (ad 7)])), (ad 1, .inl (cA 1, nW, .inr (.inl cols))), (ad 2, .inl (cA 2, nH, .inr (.inl rows))), (ad 3, .inl (cA 3, ((nW + 1) * 40), .inr (.inl ends))), (ad 4, .inl (cA 4, ((nW + 1) * 40), .inl ecost)), (ad 5, .inl (cA 5, (nW + 1), .inl ecnt)), (ad 6, .inl (cA 6, (nW + 1), .inl tails)), (ad 7, .inl (cA 7, (nW + 1), .inl longer))]
abbrev tX0 (cA : Nat → ClassId) : List (ClassId × FieldType) := [(cA 1, .long), (cA 2, .long), (cA 3, .long), (cA 4, .int), (cA 5, .int), (cA 6, .int), (cA 7, .int)]
abbrev wX1 (ad : Nat → Nat) (cA : Nat → ClassId) (nW : Nat) (nH : Nat) (th : Int32) (fn : Int32) (wd : Int32) (dk : Nat → Int32) (mn : Nat → Int32) (cs : Nat → Int64) (nx : Nat → Int32) (gs : Nat → Int32) (pr : Nat → Int64) (ln : Nat → Int32) (wy : Nat → Int32) (ct : Nat → Int64) (bf : Nat → Int64) (sg : Nat → Int64) (my : Nat → Int32) : va_W := [(ad 0, .inr (2, [.int th, .int (nI nW), .int (nI nH), .ref (ad 1), .ref (ad 2), .ref (ad 3), .ref (ad 4), .ref (ad 5), .int fn, .ref (ad 6), .ref (ad 7), .ref (ad 8), .ref (ad 9), .ref (ad 10), .ref (ad 11), .ref (ad 12), .int wd])), (ad 1, .inl (cA 1, 2400, .inl dk)), (ad 2, .inl (cA 2, 61, .inl mn)), (ad 3, .inl (cA 3, 2440, .inr (.inl cs))), (ad 4, .inl (cA 4, 2440, .inl nx)), (ad 5, .inl (cA 5, 2440, .inl gs)), (ad 6, .inl (cA 6, 40, .inr (.inl pr))), (ad 7, .inl (cA 7, 40, .inl ln)), (ad 8, .inl (cA 8, 2480, .inl wy)), (ad 9, .inl (cA 9, 61, .inr (.inl ct))), (ad 10, .inl (cA 10, 61, .inr (.inl bf))), (ad 11, .inl (cA 11, 3721, .inr (.inl sg))), (ad 12, .inl (cA 12, 61, .inl my))]
abbrev tX1 (cA : Nat → ClassId) : List (ClassId × FieldType) := [(cA 1, .boolean), (cA 2, .int), (cA 3, .long), (cA 4, .int), (cA 5, .int), (cA 6, .long), (cA 7, .int), (cA 8, .int), (cA 9, .long), (cA 10, .long), (cA 11, .long), (cA 12, .boolean)]
def wJ13_bitCount_95d88 (a0 : Int64) (Post : Int32 → Prop) : Prop :=
  ∀ x0_1 : Int64, x0_1 = (a0 - ((zUshr a0 1) &&& 6148914691236517205)) → ∀ x0_2 : Int64, x0_2 = ((x0_1 &&& 3689348814741910323) + ((zUshr x0_1 2) &&& 3689348814741910323)) → ∀ x0_3 : Int64, x0_3 = ((x0_2 + (zUshr x0_2 4)) &&& 1085102592571150095) → ∀ x0_4 : Int64, x0_4 = (x0_3 + (zUshr x0_3 8)) → ∀ x0_5 : Int64, x0_5 = (x0_4 + (zUshr x0_4 16)) → ∀ x0_6 : Int64, x0_6 = (x0_5 + (zUshr x0_5 32)) → Post ((Int64.toInt32 x0_6) &&& 127)
def wJ9_floorDiv_7cf53 (a0 : Int32) (a1 : Int32) (Post : Int32 → Prop) : Prop :=
  (¬ a1 = 0) ∧ (∀ x2_1 : Int32, x2_1 = (a0 / a1) → ((0 ≤ (a0 ^^^ a1) → Post x2_1) ∧ (¬ 0 ≤ (a0 ^^^ a1) → (((x2_1 * a1) = a0 → Post x2_1) ∧ (¬ (x2_1 * a1) = a0 → Post (x2_1 - 1))))))
def wX0_has (a0 : Int64) (a2 : Int32) (Post : Int32 → Prop) : Prop :=
  (((lg_cmp ((zUshr a0 a2) &&& 1) 0) = 0 → Post 0) ∧ (¬ (lg_cmp ((zUshr a0 a2) &&& 1) 0) = 0 → Post 1))
def wX0_shelf (a0 : Int32) (Post : Int32 → Prop) : Prop :=
  Post (a0 * 40)
def jX0_signCost_18 (a0 : Int32) (a1 : Int32) (a2 : Int32) (a3 : Int32) (Post : Int32 → Prop) (x4 : Int32) (s0 : Int32) : Prop :=
  Post (((x4 * x4) + (5 * a1)) + s0)
def wX0_signCost (a0 : Int32) (a1 : Int32) (a2 : Int32) (a3 : Int32) (Post : Int32 → Prop) : Prop :=
  ∀ x4_1 : Int32, x4_1 = (a0 - a3) → ((a2 = 0 → jX0_signCost_18 a0 a1 a2 a3 Post x4_1 0) ∧ (¬ a2 = 0 → jX0_signCost_18 a0 a1 a2 a3 Post x4_1 (2 * (a2 - 1))))
def bX0_firstDarkColumn_2 (nW : Nat) (cols : Nat → Int64) (Post : Int32 → Prop) (r2 : Int32 → Prop) (x1 : Int32) : Prop :=
  (((nI nW) ≤ x1 → Post (-1)) ∧ (¬ (nI nW) ≤ x1 → pIn x1 nW (fun j_1 => (((lg_cmp (cols j_1) 0) = 0 → r2 (x1 + 1)) ∧ (¬ (lg_cmp (cols j_1) 0) = 0 → Post x1)))))
def lX0_firstDarkColumn_2 (nW : Nat) (cols : Nat → Int64) (Post : Int32 → Prop) : Nat → Int32 → Prop
  | 0, _ => False
  | n + 1, x1 => bX0_firstDarkColumn_2 nW cols Post (lX0_firstDarkColumn_2 nW cols Post n) x1
def wX0_firstDarkColumn (nW : Nat) (cols : Nat → Int64) (Post : Int32 → Prop) : Prop :=
  ∃ n : Nat, lX0_firstDarkColumn_2 nW cols Post n 0
def bX0_lastDarkColumn_7 (nW : Nat) (cols : Nat → Int64) (Post : Int32 → Prop) (r7 : Int32 → Prop) (x1 : Int32) : Prop :=
  ((x1 < 0 → Post (-1)) ∧ (¬ x1 < 0 → pIn x1 nW (fun j_2 => (((lg_cmp (cols j_2) 0) = 0 → r7 (x1 + (-1))) ∧ (¬ (lg_cmp (cols j_2) 0) = 0 → Post x1)))))
def lX0_lastDarkColumn_7 (nW : Nat) (cols : Nat → Int64) (Post : Int32 → Prop) : Nat → Int32 → Prop
  | 0, _ => False
  | n + 1, x1 => bX0_lastDarkColumn_7 nW cols Post (lX0_lastDarkColumn_7 nW cols Post n) x1
def wX0_lastDarkColumn (nW : Nat) (cols : Nat → Int64) (Post : Int32 → Prop) : Prop :=
  ∀ x1_1 : Int32, x1_1 = ((nI nW) - 1) → ∃ n : Nat, lX0_lastDarkColumn_7 nW cols Post n x1_1
def wX0_darkInRow (nH : Nat) (rows : Nat → Int64) (a1 : Int32) (Post : Int32 → Prop) : Prop :=
  pIn a1 nH (fun j_1 => wJ13_bitCount_95d88 (rows j_1) (fun r_2 => Post r_2))
def bX0_mostDarkInARow_4 (nH : Nat) (rows : Nat → Int64) (Post : Int32 → Prop) (r4 : Int32 → Int32 → Prop) (x1 : Int32) (x2 : Int32) : Prop :=
  (((nI nH) ≤ x2 → Post x1) ∧ (¬ (nI nH) ≤ x2 → wX0_darkInRow nH rows x2 (fun r_1 => ∀ x1_2 : Int32, x1_2 = (zMax x1 r_1) → r4 x1_2 (x2 + 1))))
def lX0_mostDarkInARow_4 (nH : Nat) (rows : Nat → Int64) (Post : Int32 → Prop) : Nat → Int32 → Int32 → Prop
  | 0, _, _ => False
  | n + 1, x1, x2 => bX0_mostDarkInARow_4 nH rows Post (lX0_mostDarkInARow_4 nH rows Post n) x1 x2
def wX0_mostDarkInARow (nH : Nat) (rows : Nat → Int64) (Post : Int32 → Prop) : Prop :=
  ∃ n : Nat, lX0_mostDarkInARow_4 nH rows Post n 0 0
def bX0_firstStrongRow_7 (nH : Nat) (rows : Nat → Int64) (Post : Int32 → Prop) (r7 : Int32 → Int32 → Prop) (x1 : Int32) (x2 : Int32) : Prop :=
  (((nI nH) ≤ x2 → Post (-1)) ∧ (¬ (nI nH) ≤ x2 → wX0_darkInRow nH rows x2 (fun r_2 => (((2 * r_2) < x1 → r7 x1 (x2 + 1)) ∧ (¬ (2 * r_2) < x1 → Post x2)))))
def lX0_firstStrongRow_7 (nH : Nat) (rows : Nat → Int64) (Post : Int32 → Prop) : Nat → Int32 → Int32 → Prop
  | 0, _, _ => False
  | n + 1, x1, x2 => bX0_firstStrongRow_7 nH rows Post (lX0_firstStrongRow_7 nH rows Post n) x1 x2
def wX0_firstStrongRow (nH : Nat) (rows : Nat → Int64) (Post : Int32 → Prop) : Prop :=
  wX0_mostDarkInARow nH rows (fun r_1 => ∃ n : Nat, lX0_firstStrongRow_7 nH rows Post n r_1 0)
def bX0_lastStrongRow_12 (nH : Nat) (rows : Nat → Int64) (Post : Int32 → Prop) (r12 : Int32 → Int32 → Prop) (x1 : Int32) (x2 : Int32) : Prop :=
  ((x2 < 0 → Post (-1)) ∧ (¬ x2 < 0 → wX0_darkInRow nH rows x2 (fun r_3 => (((2 * r_3) < x1 → r12 x1 (x2 + (-1))) ∧ (¬ (2 * r_3) < x1 → Post x2)))))
def lX0_lastStrongRow_12 (nH : Nat) (rows : Nat → Int64) (Post : Int32 → Prop) : Nat → Int32 → Int32 → Prop
  | 0, _, _ => False
  | n + 1, x1, x2 => bX0_lastStrongRow_12 nH rows Post (lX0_lastStrongRow_12 nH rows Post n) x1 x2
def wX0_lastStrongRow (nH : Nat) (rows : Nat → Int64) (Post : Int32 → Prop) : Prop :=
  wX0_mostDarkInARow nH rows (fun r_1 => ∀ x2_2 : Int32, x2_2 = ((nI nH) - 1) → ∃ n : Nat, lX0_lastStrongRow_12 nH rows Post n r_1 x2_2)
def wX0_dueWidth (nH : Nat) (rows : Nat → Int64) (Post : Int32 → Prop) : Prop :=
  wX0_lastStrongRow nH rows (fun r_1 => wX0_firstStrongRow nH rows (fun r_2 => Post ((((r_1 - r_2) * 3) / 4) + 2)))
def bX0_shearedColumns_8 (nH : Nat) (rows : Nat → Int64) (a1 : Int32) (Post : Int32 → Prop) (r8 : Int64 → Int64 → Int32 → Prop) (x2 : Int64) (x4 : Int64) (x6 : Int32) : Prop :=
  (((nI nH) ≤ x6 → wJ13_bitCount_95d88 x2 (fun r_1 => wJ13_bitCount_95d88 x4 (fun r_2 => Post (r_1 + r_2)))) ∧ (¬ (nI nH) ≤ x6 → wJ9_floorDiv_7cf53 (a1 * (((nI nH) - 1) - x6)) 8 (fun r_3 => ∀ x7_4 : Int32, x7_4 = (30 + r_3) → pIn x6 nH (fun j_5 => ∀ x2_6 : Int64, x2_6 = (x2 ||| (zShl (rows j_5) x7_4)) → pIn x6 nH (fun j_7 => ∀ x4_8 : Int64, x4_8 = (x4 ||| (zUshr (zUshr (rows j_7) 1) (63 - x7_4))) → r8 x2_6 x4_8 (x6 + 1))))))
def lX0_shearedColumns_8 (nH : Nat) (rows : Nat → Int64) (a1 : Int32) (Post : Int32 → Prop) : Nat → Int64 → Int64 → Int32 → Prop
  | 0, _, _, _ => False
  | n + 1, x2, x4, x6 => bX0_shearedColumns_8 nH rows a1 Post (lX0_shearedColumns_8 nH rows a1 Post n) x2 x4 x6
def wX0_shearedColumns (nH : Nat) (rows : Nat → Int64) (a1 : Int32) (Post : Int32 → Prop) : Prop :=
  ∃ n : Nat, lX0_shearedColumns_8 nH rows a1 Post n 0 0 0
def wX0_touch (nW : Nat) (cols : Nat → Int64) (a1 : Int32) (Post : Int32 → Prop) : Prop :=
  pIn (a1 - 1) nW (fun j_1 => pIn a1 nW (fun j_2 => wJ13_bitCount_95d88 ((cols j_1) &&& (cols j_2)) (fun r_3 => Post r_3)))
def jX0_placesToCut_40 (nW : Nat) (cols : Nat → Int64) (a1 : Int32) (a2 : Int32) (Post : Int64 → Prop) (r7 : Int64 → Int32 → Prop) (x3 : Int64) (x5 : Int32) (s0 : Int32) : Prop :=
  ((s0 = 0 → r7 x3 (x5 + 1)) ∧ (¬ s0 = 0 → wX0_touch nW cols x5 (fun r_4 => ((2 < r_4 → r7 x3 (x5 + 1)) ∧ (¬ 2 < r_4 → ∀ x3_5 : Int64, x3_5 = (x3 ||| (zShl 1 x5)) → r7 x3_5 (x5 + 1))))))
def bX0_placesToCut_7 (nW : Nat) (cols : Nat → Int64) (a1 : Int32) (a2 : Int32) (Post : Int64 → Prop) (r7 : Int64 → Int32 → Prop) (x3 : Int64) (x5 : Int32) : Prop :=
  ((a2 ≤ x5 → Post x3) ∧ (¬ a2 ≤ x5 → pIn (x5 - 1) nW (fun j_2 => pIn x5 nW (fun j_3 => (((lg_cmp ((cols j_2) ||| (cols j_3)) 0) = 0 → jX0_placesToCut_40 nW cols a1 a2 Post r7 x3 x5 0) ∧ (¬ (lg_cmp ((cols j_2) ||| (cols j_3)) 0) = 0 → jX0_placesToCut_40 nW cols a1 a2 Post r7 x3 x5 1))))))
def lX0_placesToCut_7 (nW : Nat) (cols : Nat → Int64) (a1 : Int32) (a2 : Int32) (Post : Int64 → Prop) : Nat → Int64 → Int32 → Prop
  | 0, _, _ => False
  | n + 1, x3, x5 => bX0_placesToCut_7 nW cols a1 a2 Post (lX0_placesToCut_7 nW cols a1 a2 Post n) x3 x5
def wX0_placesToCut (nW : Nat) (cols : Nat → Int64) (a1 : Int32) (a2 : Int32) (Post : Int64 → Prop) : Prop :=
  ∀ x5_1 : Int32, x5_1 = (a1 + 1) → ∃ n : Nat, lX0_placesToCut_7 nW cols a1 a2 Post n 0 x5_1
def wX0_isFound (fd : Int32) (a1 : Int32) (Post : Int32 → Prop) : Prop :=
  ((a1 < 0 → Post 0) ∧ (¬ a1 < 0 → ((fd ≤ a1 → Post 0) ∧ (¬ fd ≤ a1 → Post 1))))
def bX0_way_35 (nW : Nat) (ff : Int32) (fd : Int32) (ends : Nat → Int64) (a1 : Int32) (a2 : Int32) (Post : Int32 → Prop) (r35 : Int64 → Int32 → Int32 → Prop) (x3 : Int64) (x5 : Int32) (x6 : Int32) : Prop :=
  (((nI nW) < x6 → Post (-1)) ∧ (¬ (nI nW) < x6 → wX0_has x3 x6 (fun r_5 => ((r_5 = 0 → r35 x3 x5 (x6 + 1)) ∧ (¬ r_5 = 0 → ((x5 = a2 → Post x6) ∧ (¬ x5 = a2 → r35 x3 (x5 + 1) (x6 + 1))))))))
def lX0_way_35 (nW : Nat) (ff : Int32) (fd : Int32) (ends : Nat → Int64) (a1 : Int32) (a2 : Int32) (Post : Int32 → Prop) : Nat → Int64 → Int32 → Int32 → Prop
  | 0, _, _, _ => False
  | n + 1, x3, x5, x6 => bX0_way_35 nW ff fd ends a1 a2 Post (lX0_way_35 nW ff fd ends a1 a2 Post n) x3 x5 x6
def wX0_way (nW : Nat) (ff : Int32) (fd : Int32) (ends : Nat → Int64) (a1 : Int32) (a2 : Int32) (Post : Int32 → Prop) : Prop :=
  wX0_isFound fd a1 (fun r_1 => ((r_1 = 0 → Post (-1)) ∧ (¬ r_1 = 0 → ((0 ≤ a2 → wX0_shelf ff (fun r_2 => pIn (r_2 + a1) ((nW + 1) * 40) (fun j_3 => ∀ x3_4 : Int64, x3_4 = (ends j_3) → ∃ n : Nat, lX0_way_35 nW ff fd ends a1 a2 Post n x3_4 0 0))) ∧ (¬ 0 ≤ a2 → Post (-1))))))
def wX0_cost (nW : Nat) (ff : Int32) (fd : Int32) (ecost : Nat → Int32) (a1 : Int32) (Post : Int64 → Prop) : Prop :=
  wX0_isFound fd a1 (fun r_1 => ((r_1 = 0 → Post (-1)) ∧ (¬ r_1 = 0 → wX0_shelf ff (fun r_2 => pIn (r_2 + a1) ((nW + 1) * 40) (fun j_3 => Post (Int32.toInt64 (ecost j_3)))))))
def wX0_signs (nW : Nat) (ff : Int32) (fd : Int32) (ends : Nat → Int64) (a1 : Int32) (Post : Int32 → Prop) : Prop :=
  wX0_isFound fd a1 (fun r_1 => ((r_1 = 0 → Post (-1)) ∧ (¬ r_1 = 0 → wX0_shelf ff (fun r_2 => pIn (r_2 + a1) ((nW + 1) * 40) (fun j_3 => wJ13_bitCount_95d88 (ends j_3) (fun r_4 => Post (r_4 - 1)))))))
def wX0_base (nW : Nat) (nH : Nat) (cols : Nat → Int64) (rows : Nat → Int64) (a1 : Int32) (Post : Int32 → Prop) : Prop :=
  wX0_firstDarkColumn nW cols (fun r_1 => ((r_1 = (-1) → Post (-1)) ∧ (¬ r_1 = (-1) → ((a1 = 0 → wX0_firstStrongRow nH rows (fun r_2 => Post r_2)) ∧ (a1 = 1 → wX0_lastStrongRow nH rows (fun r_3 => Post r_3)) ∧ (a1 = 2 → wX0_dueWidth nH rows (fun r_4 => Post r_4)) ∧ (a1 = 3 → wX0_firstDarkColumn nW cols (fun r_5 => Post r_5)) ∧ (a1 = 4 → wX0_lastDarkColumn nW cols (fun r_6 => Post (r_6 + 1))) ∧ (a1 = 5 → wX0_firstDarkColumn nW cols (fun r_7 => wX0_lastDarkColumn nW cols (fun r_8 => wX0_placesToCut nW cols r_7 (r_8 + 1) (fun r_9 => wJ13_bitCount_95d88 r_9 (fun r_10 => Post r_10))))) ∧ ((¬ a1 = 0 ∧ ¬ a1 = 1 ∧ ¬ a1 = 2 ∧ ¬ a1 = 3 ∧ ¬ a1 = 4 ∧ ¬ a1 = 5) → Post (-1))))))
def jX0_slant_36 (nH : Nat) (rows : Nat → Int64) (Post : Int32 → Prop) (r10 : Int32 → Int32 → Int32 → Prop) (x1 : Int32) (x2 : Int32) (x3 : Int32) : Prop :=
  wX0_shearedColumns nH rows x3 (fun r_3 => ((x2 ≤ r_3 → r10 x1 x2 (x3 + 1)) ∧ (¬ x2 ≤ r_3 → r10 x3 r_3 (x3 + 1))))
def bX0_slant_10 (nH : Nat) (rows : Nat → Int64) (Post : Int32 → Prop) (r10 : Int32 → Int32 → Int32 → Prop) (x1 : Int32) (x2 : Int32) (x3 : Int32) : Prop :=
  ((6 < x3 → Post x1) ∧ (¬ 6 < x3 → wX0_shearedColumns nH rows (-x3) (fun r_2 => ((x2 ≤ r_2 → jX0_slant_36 nH rows Post r10 x1 x2 x3) ∧ (¬ x2 ≤ r_2 → ∀ x1_4 : Int32, x1_4 = (-x3) → jX0_slant_36 nH rows Post r10 x1_4 r_2 x3)))))
def lX0_slant_10 (nH : Nat) (rows : Nat → Int64) (Post : Int32 → Prop) : Nat → Int32 → Int32 → Int32 → Prop
  | 0, _, _, _ => False
  | n + 1, x1, x2, x3 => bX0_slant_10 nH rows Post (lX0_slant_10 nH rows Post n) x1 x2 x3
def wX0_slant (nH : Nat) (rows : Nat → Int64) (Post : Int32 → Prop) : Prop :=
  wX0_shearedColumns nH rows 0 (fun r_1 => ∃ n : Nat, lX0_slant_10 nH rows Post n 0 r_1 1)
def jX0_lengthenTails_61 (nW : Nat) (cols : Nat → Int64) (a1 : Int32) (a2 : Int32) (a3 : Int64) (Post : (Nat → Int32) → (Nat → Int32) → Prop) (r17 : Int32 → Int32 → (Nat → Int32) → (Nat → Int32) → Prop) (x5 : Int32) (x6 : Int32) (s0 : Int32) (tails : Nat → Int32) (longer : Nat → Int32) : Prop :=
  pIn (x6 + 1) (nW + 1) (fun j_9 => pIn x6 (nW + 1) (fun j_10 => r17 x5 (x6 + (-1)) tails (upd longer j_10 (zMin 1000000000 ((longer j_9) + s0)))))
def jX0_lengthenTails_39 (nW : Nat) (cols : Nat → Int64) (a1 : Int32) (a2 : Int32) (a3 : Int64) (Post : (Nat → Int32) → (Nat → Int32) → Prop) (r17 : Int32 → Int32 → (Nat → Int32) → (Nat → Int32) → Prop) (x5 : Int32) (x6 : Int32) (tails : Nat → Int32) (longer : Nat → Int32) : Prop :=
  wX0_has a3 x6 (fun r_8 => ((r_8 = 0 → jX0_lengthenTails_61 nW cols a1 a2 a3 Post r17 x5 x6 0 tails longer) ∧ (¬ r_8 = 0 → pIn (x5 + 1) (nW + 1) (fun j_11 => jX0_lengthenTails_61 nW cols a1 a2 a3 Post r17 x5 x6 (tails j_11) tails longer))))
def bX0_lengthenTails_17 (nW : Nat) (cols : Nat → Int64) (a1 : Int32) (a2 : Int32) (a3 : Int64) (Post : (Nat → Int32) → (Nat → Int32) → Prop) (r17 : Int32 → Int32 → (Nat → Int32) → (Nat → Int32) → Prop) (x5 : Int32) (x6 : Int32) (tails : Nat → Int32) (longer : Nat → Int32) : Prop :=
  ((x6 ≤ a1 → pCpy (a1 + 1) (a1 + 1) (a2 - a1) (nW + 1) (nW + 1) (fun i_4 j_5 k_6 => Post (va_cpy longer tails i_4 j_5 k_6) longer)) ∧ (¬ x6 ≤ a1 → pIn x6 nW (fun j_7 => (((lg_cmp (cols j_7) 0) = 0 → jX0_lengthenTails_39 nW cols a1 a2 a3 Post r17 x5 x6 tails longer) ∧ (¬ (lg_cmp (cols j_7) 0) = 0 → jX0_lengthenTails_39 nW cols a1 a2 a3 Post r17 x6 x6 tails longer)))))
def lX0_lengthenTails_17 (nW : Nat) (cols : Nat → Int64) (a1 : Int32) (a2 : Int32) (a3 : Int64) (Post : (Nat → Int32) → (Nat → Int32) → Prop) : Nat → Int32 → Int32 → (Nat → Int32) → (Nat → Int32) → Prop
  | 0, _, _, _, _ => False
  | n + 1, x5, x6, tails, longer => bX0_lengthenTails_17 nW cols a1 a2 a3 Post (lX0_lengthenTails_17 nW cols a1 a2 a3 Post n) x5 x6 tails longer
def wX0_lengthenTails (nW : Nat) (cols : Nat → Int64) (tails : Nat → Int32) (longer : Nat → Int32) (a1 : Int32) (a2 : Int32) (a3 : Int64) (Post : (Nat → Int32) → (Nat → Int32) → Prop) : Prop :=
  ∀ x5_1 : Int32, x5_1 = (a2 - 1) → pIn a2 (nW + 1) (fun j_2 => ∀ x6_3 : Int32, x6_3 = (a2 - 1) → ∃ n : Nat, lX0_lengthenTails_17 nW cols a1 a2 a3 Post n x5_1 x6_3 tails (upd longer j_2 0))
def bX0_plain_66 (nW : Nat) (cols : Nat → Int64) (a1 : Int32) (Post : Int32 → (Nat → Int32) → (Nat → Int32) → Prop) (r66 : Int32 → Int32 → Int64 → Int32 → (Nat → Int32) → (Nat → Int32) → Prop) (x2 : Int32) (x3 : Int32) (x4 : Int64) (x6 : Int32) (tails : Nat → Int32) (longer : Nat → Int32) : Prop :=
  ((a1 ≤ x6 → pIn (x2 + 1) (nW + 1) (fun j_5 => Post (tails j_5) tails longer)) ∧ (¬ a1 ≤ x6 → wX0_lengthenTails nW cols tails longer x2 x3 x4 (fun tails_8 longer_9 => r66 x2 x3 x4 (x6 + 1) tails_8 longer_9)))
def lX0_plain_66 (nW : Nat) (cols : Nat → Int64) (a1 : Int32) (Post : Int32 → (Nat → Int32) → (Nat → Int32) → Prop) : Nat → Int32 → Int32 → Int64 → Int32 → (Nat → Int32) → (Nat → Int32) → Prop
  | 0, _, _, _, _, _, _ => False
  | n + 1, x2, x3, x4, x6, tails, longer => bX0_plain_66 nW cols a1 Post (lX0_plain_66 nW cols a1 Post n) x2 x3 x4 x6 tails longer
def bX0_plain_43 (nW : Nat) (cols : Nat → Int64) (a1 : Int32) (Post : Int32 → (Nat → Int32) → (Nat → Int32) → Prop) (r43 : Int32 → Int32 → Int64 → Int32 → (Nat → Int32) → (Nat → Int32) → Prop) (x2 : Int32) (x3 : Int32) (x4 : Int64) (x6 : Int32) (tails : Nat → Int32) (longer : Nat → Int32) : Prop :=
  ((x3 < x6 → ∃ n : Nat, lX0_plain_66 nW cols a1 Post n x2 x3 x4 1 tails longer) ∧ (¬ x3 < x6 → pIn x6 (nW + 1) (fun j_11 => r43 x2 x3 x4 (x6 + 1) (upd tails j_11 1) longer)))
def lX0_plain_43 (nW : Nat) (cols : Nat → Int64) (a1 : Int32) (Post : Int32 → (Nat → Int32) → (Nat → Int32) → Prop) : Nat → Int32 → Int32 → Int64 → Int32 → (Nat → Int32) → (Nat → Int32) → Prop
  | 0, _, _, _, _, _, _ => False
  | n + 1, x2, x3, x4, x6, tails, longer => bX0_plain_43 nW cols a1 Post (lX0_plain_43 nW cols a1 Post n) x2 x3 x4 x6 tails longer
def wX0_plain (nW : Nat) (cols : Nat → Int64) (tails : Nat → Int32) (longer : Nat → Int32) (a1 : Int32) (Post : Int32 → (Nat → Int32) → (Nat → Int32) → Prop) : Prop :=
  wX0_firstDarkColumn nW cols (fun r_1 => ((r_1 = (-1) → Post 0 tails longer) ∧ (¬ r_1 = (-1) → ((a1 < 1 → Post 0 tails longer) ∧ (¬ a1 < 1 → ((a1 ≤ (nI nW) → wX0_lastDarkColumn nW cols (fun r_2 => ∀ x3_3 : Int32, x3_3 = (r_2 + 1) → wX0_placesToCut nW cols r_1 x3_3 (fun r_4 => ∃ n : Nat, lX0_plain_43 nW cols a1 Post n r_1 x3_3 r_4 0 tails longer))) ∧ (¬ a1 ≤ (nI nW) → Post 0 tails longer)))))))
def wX0_shelveUntil (nW : Nat) (ends : Nat → Int64) (ecost : Nat → Int32) (ecnt : Nat → Int32) (a1 : Int32) (Post : (Nat → Int64) → (Nat → Int32) → (Nat → Int32) → Prop) : Prop :=
  wX0_shelf a1 (fun r_1 => pIn r_1 ((nW + 1) * 40) (fun j_2 => wX0_shelf a1 (fun r_3 => pIn r_3 ((nW + 1) * 40) (fun j_4 => pIn a1 (nW + 1) (fun j_5 => Post (vp_updL ends j_2 (zShl 1 a1)) (upd ecost j_4 0) (upd ecnt j_5 1))))))
def jX0_shelve_121 (nW : Nat) (a1 : Int32) (a2 : Int32) (a3 : Int64) (a5 : Int32) (Post : Int32 → (Nat → Int64) → (Nat → Int32) → (Nat → Int32) → Prop) (x6 : Int32) (x7 : Int32) (x8 : Int32) (ends : Nat → Int64) (ecost : Nat → Int32) (ecnt : Nat → Int32) : Prop :=
  pIn (x6 + x8) ((nW + 1) * 40) (fun j_5 => pIn (x6 + x8) ((nW + 1) * 40) (fun j_6 => pIn a1 (nW + 1) (fun j_7 => Post 1 (vp_updL ends j_6 a3) (upd ecost j_5 a2) (upd ecnt j_7 (zMin (x7 + 1) a5)))))
def bX0_shelve_50 (nW : Nat) (a1 : Int32) (a2 : Int32) (a3 : Int64) (a5 : Int32) (Post : Int32 → (Nat → Int64) → (Nat → Int32) → (Nat → Int32) → Prop) (r50 : Int32 → Int32 → Int32 → (Nat → Int64) → (Nat → Int32) → (Nat → Int32) → Prop) (x6 : Int32) (x7 : Int32) (x8 : Int32) (ends : Nat → Int64) (ecost : Nat → Int32) (ecnt : Nat → Int32) : Prop :=
  ((x8 ≤ 0 → jX0_shelve_121 nW a1 a2 a3 a5 Post x6 x7 x8 ends ecost ecnt) ∧ (¬ x8 ≤ 0 → pIn ((x6 + x8) - 1) ((nW + 1) * 40) (fun j_8 => (((ecost j_8) ≤ a2 → jX0_shelve_121 nW a1 a2 a3 a5 Post x6 x7 x8 ends ecost ecnt) ∧ (¬ (ecost j_8) ≤ a2 → pIn ((x6 + x8) - 1) ((nW + 1) * 40) (fun j_9 => pIn (x6 + x8) ((nW + 1) * 40) (fun j_10 => pIn ((x6 + x8) - 1) ((nW + 1) * 40) (fun j_11 => pIn (x6 + x8) ((nW + 1) * 40) (fun j_12 => r50 x6 x7 (x8 + (-1)) (vp_updL ends j_12 (ends j_11)) (upd ecost j_10 (ecost j_9)) ecnt)))))))))
def lX0_shelve_50 (nW : Nat) (a1 : Int32) (a2 : Int32) (a3 : Int64) (a5 : Int32) (Post : Int32 → (Nat → Int64) → (Nat → Int32) → (Nat → Int32) → Prop) : Nat → Int32 → Int32 → Int32 → (Nat → Int64) → (Nat → Int32) → (Nat → Int32) → Prop
  | 0, _, _, _, _, _, _ => False
  | n + 1, x6, x7, x8, ends, ecost, ecnt => bX0_shelve_50 nW a1 a2 a3 a5 Post (lX0_shelve_50 nW a1 a2 a3 a5 Post n) x6 x7 x8 ends ecost ecnt
def wX0_shelve (nW : Nat) (ends : Nat → Int64) (ecost : Nat → Int32) (ecnt : Nat → Int32) (a1 : Int32) (a2 : Int32) (a3 : Int64) (a5 : Int32) (Post : Int32 → (Nat → Int64) → (Nat → Int32) → (Nat → Int32) → Prop) : Prop :=
  wX0_shelf a1 (fun r_1 => pIn a1 (nW + 1) (fun j_2 => ∀ x7_3 : Int32, x7_3 = (ecnt j_2) → ((x7_3 < a5 → ∀ x8_4 : Int32, x8_4 = (zMin x7_3 (a5 - 1)) → ∃ n : Nat, lX0_shelve_50 nW a1 a2 a3 a5 Post n r_1 x7_3 x8_4 ends ecost ecnt) ∧ (¬ x7_3 < a5 → pIn ((r_1 + a5) - 1) ((nW + 1) * 40) (fun j_14 => ((a2 < (ecost j_14) → ∀ x8_15 : Int32, x8_15 = (zMin x7_3 (a5 - 1)) → ∃ n : Nat, lX0_shelve_50 nW a1 a2 a3 a5 Post n r_1 x7_3 x8_15 ends ecost ecnt) ∧ (¬ a2 < (ecost j_14) → Post 0 ends ecost ecnt)))))))
def bX0_goOnFrom_11 (nW : Nat) (a1 : Int32) (a2 : Int32) (a3 : Int32) (a4 : Int32) (Post : (Nat → Int64) → (Nat → Int32) → (Nat → Int32) → Prop) (r11 : Int32 → Int32 → (Nat → Int64) → (Nat → Int32) → (Nat → Int32) → Prop) (x5 : Int32) (x6 : Int32) (ends : Nat → Int64) (ecost : Nat → Int32) (ecnt : Nat → Int32) : Prop :=
  ((x5 ≤ x6 → Post ends ecost ecnt) ∧ (¬ x5 ≤ x6 → wX0_shelf a1 (fun r_3 => ∀ x7_4 : Int32, x7_4 = (r_3 + x6) → pIn x7_4 ((nW + 1) * 40) (fun j_5 => pIn x7_4 ((nW + 1) * 40) (fun j_6 => wX0_shelve nW ends ecost ecnt a2 (a3 + (ecost j_5)) ((ends j_6) ||| (zShl 1 a2)) a4 (fun r_8 ends_9 ecost_10 ecnt_11 => ((r_8 = 0 → Post ends_9 ecost_10 ecnt_11) ∧ (¬ r_8 = 0 → r11 x5 (x6 + 1) ends_9 ecost_10 ecnt_11))))))))
def lX0_goOnFrom_11 (nW : Nat) (a1 : Int32) (a2 : Int32) (a3 : Int32) (a4 : Int32) (Post : (Nat → Int64) → (Nat → Int32) → (Nat → Int32) → Prop) : Nat → Int32 → Int32 → (Nat → Int64) → (Nat → Int32) → (Nat → Int32) → Prop
  | 0, _, _, _, _, _ => False
  | n + 1, x5, x6, ends, ecost, ecnt => bX0_goOnFrom_11 nW a1 a2 a3 a4 Post (lX0_goOnFrom_11 nW a1 a2 a3 a4 Post n) x5 x6 ends ecost ecnt
def wX0_goOnFrom (nW : Nat) (ends : Nat → Int64) (ecost : Nat → Int32) (ecnt : Nat → Int32) (a1 : Int32) (a2 : Int32) (a3 : Int32) (a4 : Int32) (Post : (Nat → Int64) → (Nat → Int32) → (Nat → Int32) → Prop) : Prop :=
  pIn a1 (nW + 1) (fun j_1 => ∀ x5_2 : Int32, x5_2 = (ecnt j_1) → ∃ n : Nat, lX0_goOnFrom_11 nW a1 a2 a3 a4 Post n x5_2 0 ends ecost ecnt)
def jX0_shelveEndsAt_103 (nW : Nat) (cols : Nat → Int64) (a1 : Int32) (a2 : Int32) (a3 : Int64) (a5 : Int32) (a6 : Int32) (Post : (Nat → Int64) → (Nat → Int32) → (Nat → Int32) → Prop) (r28 : Int32 → Int32 → Int32 → Int64 → Int64 → Int64 → Int32 → (Nat → Int64) → (Nat → Int32) → (Nat → Int32) → Prop) (x7 : Int32) (x8 : Int32) (x9 : Int32) (x10 : Int64) (x12 : Int64) (x14 : Int64) (x16 : Int32) (ends : Nat → Int64) (ecost : Nat → Int32) (ecnt : Nat → Int32) : Prop :=
  ∀ x19_7 : Int32, x19_7 = (x16 + 1) → (((lg_cmp x10 0) = 0 → r28 x7 x8 x9 x10 x12 x14 (x16 + 1) ends ecost ecnt) ∧ (¬ (lg_cmp x10 0) = 0 → wX0_has a3 x19_7 (fun r_8 => ((r_8 = 0 → r28 x7 x8 x9 x10 x12 x14 (x16 + 1) ends ecost ecnt) ∧ (¬ r_8 = 0 → ∀ x20_9 : Int32, x20_9 = ((x8 - x7) + 1) → wJ13_bitCount_95d88 x14 (fun r_10 => wX0_signCost x20_9 (x20_9 - x9) r_10 a5 (fun r_11 => ((a2 ≤ x19_7 → wX0_goOnFrom nW ends ecost ecnt x19_7 a1 (r_11 + 0) a6 (fun ends_14 ecost_15 ecnt_16 => r28 x7 x8 x9 x10 x12 x14 (x16 + 1) ends_14 ecost_15 ecnt_16)) ∧ (¬ a2 ≤ x19_7 → wX0_touch nW cols x19_7 (fun r_17 => wX0_goOnFrom nW ends ecost ecnt x19_7 a1 (r_11 + (10 * r_17)) a6 (fun ends_20 ecost_21 ecnt_22 => r28 x7 x8 x9 x10 x12 x14 (x16 + 1) ends_20 ecost_21 ecnt_22)))))))))))
def jX0_shelveEndsAt_94 (nW : Nat) (cols : Nat → Int64) (a1 : Int32) (a2 : Int32) (a3 : Int64) (a5 : Int32) (a6 : Int32) (Post : (Nat → Int64) → (Nat → Int32) → (Nat → Int32) → Prop) (r28 : Int32 → Int32 → Int32 → Int64 → Int64 → Int64 → Int32 → (Nat → Int64) → (Nat → Int32) → (Nat → Int32) → Prop) (x9 : Int32) (x10 : Int64) (x12 : Int64) (x14 : Int64) (x16 : Int32) (s0 : Int32) (ends : Nat → Int64) (ecost : Nat → Int32) (ecnt : Nat → Int32) : Prop :=
  jX0_shelveEndsAt_103 nW cols a1 a2 a3 a5 a6 Post r28 s0 x16 (x9 + 1) x10 x12 x14 x16 ends ecost ecnt
def bX0_shelveEndsAt_28 (nW : Nat) (cols : Nat → Int64) (a1 : Int32) (a2 : Int32) (a3 : Int64) (a5 : Int32) (a6 : Int32) (Post : (Nat → Int64) → (Nat → Int32) → (Nat → Int32) → Prop) (r28 : Int32 → Int32 → Int32 → Int64 → Int64 → Int64 → Int32 → (Nat → Int64) → (Nat → Int32) → (Nat → Int32) → Prop) (x7 : Int32) (x8 : Int32) (x9 : Int32) (x10 : Int64) (x12 : Int64) (x14 : Int64) (x16 : Int32) (ends : Nat → Int64) (ecost : Nat → Int32) (ecnt : Nat → Int32) : Prop :=
  ((a2 ≤ x16 → Post ends ecost ecnt) ∧ (¬ a2 ≤ x16 → pIn x16 nW (fun j_2 => ∀ x17_3 : Int64, x17_3 = (cols j_2) → ∀ x14_4 : Int64, x14_4 = (x14 ||| (x12 &&& x17_3)) → ∀ x12_5 : Int64, x12_5 = (x12 ||| (x10 &&& (x17_3 ^^^ (-1)))) → ∀ x10_6 : Int64, x10_6 = (x10 ||| x17_3) → (((lg_cmp x17_3 0) = 0 → jX0_shelveEndsAt_103 nW cols a1 a2 a3 a5 a6 Post r28 x7 x8 x9 x10_6 x12_5 x14_4 x16 ends ecost ecnt) ∧ (¬ (lg_cmp x17_3 0) = 0 → ((x7 = (-1) → jX0_shelveEndsAt_94 nW cols a1 a2 a3 a5 a6 Post r28 x9 x10_6 x12_5 x14_4 x16 x16 ends ecost ecnt) ∧ (¬ x7 = (-1) → jX0_shelveEndsAt_94 nW cols a1 a2 a3 a5 a6 Post r28 x9 x10_6 x12_5 x14_4 x16 x7 ends ecost ecnt)))))))
def lX0_shelveEndsAt_28 (nW : Nat) (cols : Nat → Int64) (a1 : Int32) (a2 : Int32) (a3 : Int64) (a5 : Int32) (a6 : Int32) (Post : (Nat → Int64) → (Nat → Int32) → (Nat → Int32) → Prop) : Nat → Int32 → Int32 → Int32 → Int64 → Int64 → Int64 → Int32 → (Nat → Int64) → (Nat → Int32) → (Nat → Int32) → Prop
  | 0, _, _, _, _, _, _, _, _, _, _ => False
  | n + 1, x7, x8, x9, x10, x12, x14, x16, ends, ecost, ecnt => bX0_shelveEndsAt_28 nW cols a1 a2 a3 a5 a6 Post (lX0_shelveEndsAt_28 nW cols a1 a2 a3 a5 a6 Post n) x7 x8 x9 x10 x12 x14 x16 ends ecost ecnt
def wX0_shelveEndsAt (nW : Nat) (cols : Nat → Int64) (ends : Nat → Int64) (ecost : Nat → Int32) (ecnt : Nat → Int32) (a1 : Int32) (a2 : Int32) (a3 : Int64) (a5 : Int32) (a6 : Int32) (Post : (Nat → Int64) → (Nat → Int32) → (Nat → Int32) → Prop) : Prop :=
  pIn a1 (nW + 1) (fun j_1 => ∃ n : Nat, lX0_shelveEndsAt_28 nW cols a1 a2 a3 a5 a6 Post n (-1) (-1) 0 0 0 0 a1 ends ecost (upd ecnt j_1 0))
def bX0_shelveEnds_27 (nW : Nat) (nH : Nat) (cols : Nat → Int64) (rows : Nat → Int64) (a1 : Int32) (a2 : Int32) (a3 : Int32) (Post : (Nat → Int64) → (Nat → Int32) → (Nat → Int32) → Prop) (r27 : Int32 → Int64 → Int64 → Int32 → (Nat → Int64) → (Nat → Int32) → (Nat → Int32) → Prop) (x4 : Int32) (x5 : Int64) (x7 : Int64) (x9 : Int32) (ends : Nat → Int64) (ecost : Nat → Int32) (ecnt : Nat → Int32) : Prop :=
  ((x9 ≤ a1 → wX0_shelveEndsAt nW cols ends ecost ecnt a1 a2 x7 x4 a3 (fun ends_7 ecost_8 ecnt_9 => Post ends_7 ecost_8 ecnt_9)) ∧ (¬ x9 ≤ a1 → wX0_has x5 x9 (fun r_10 => ((r_10 = 0 → r27 x4 x5 x7 (x9 + (-1)) ends ecost ecnt) ∧ (¬ r_10 = 0 → wX0_shelveEndsAt nW cols ends ecost ecnt x9 a2 x7 x4 a3 (fun ends_13 ecost_14 ecnt_15 => r27 x4 x5 x7 (x9 + (-1)) ends_13 ecost_14 ecnt_15))))))
def lX0_shelveEnds_27 (nW : Nat) (nH : Nat) (cols : Nat → Int64) (rows : Nat → Int64) (a1 : Int32) (a2 : Int32) (a3 : Int32) (Post : (Nat → Int64) → (Nat → Int32) → (Nat → Int32) → Prop) : Nat → Int32 → Int64 → Int64 → Int32 → (Nat → Int64) → (Nat → Int32) → (Nat → Int32) → Prop
  | 0, _, _, _, _, _, _, _ => False
  | n + 1, x4, x5, x7, x9, ends, ecost, ecnt => bX0_shelveEnds_27 nW nH cols rows a1 a2 a3 Post (lX0_shelveEnds_27 nW nH cols rows a1 a2 a3 Post n) x4 x5 x7 x9 ends ecost ecnt
def wX0_shelveEnds (nW : Nat) (nH : Nat) (cols : Nat → Int64) (rows : Nat → Int64) (ends : Nat → Int64) (ecost : Nat → Int32) (ecnt : Nat → Int32) (a1 : Int32) (a2 : Int32) (a3 : Int32) (Post : (Nat → Int64) → (Nat → Int32) → (Nat → Int32) → Prop) : Prop :=
  wX0_dueWidth nH rows (fun r_1 => wX0_placesToCut nW cols a1 a2 (fun r_2 => ∀ x7_3 : Int64, x7_3 = (r_2 ||| (zShl 1 a2)) → ∀ x9_4 : Int32, x9_4 = (a2 - 1) → ∃ n : Nat, lX0_shelveEnds_27 nW nH cols rows a1 a2 a3 Post n r_1 r_2 x7_3 x9_4 ends ecost ecnt))
def wX0_cut (nW : Nat) (nH : Nat) (cols : Nat → Int64) (rows : Nat → Int64) (ff : Int32) (fd : Int32) (ends : Nat → Int64) (ecost : Nat → Int32) (ecnt : Nat → Int32) (a1 : Int32) (Post : Int32 → (Int32) → (Int32) → (Nat → Int64) → (Nat → Int32) → (Nat → Int32) → Prop) : Prop :=
  ((a1 < 1 → Post (-1) ff fd ends ecost ecnt) ∧ (¬ a1 < 1 → ((a1 ≤ 40 → wX0_firstDarkColumn nW cols (fun r_1 => ((r_1 = (-1) → Post 0 ff 0 ends ecost ecnt) ∧ (¬ r_1 = (-1) → wX0_lastDarkColumn nW cols (fun r_2 => ∀ x3_3 : Int32, x3_3 = (r_2 + 1) → wX0_shelveUntil nW ends ecost ecnt x3_3 (fun ends_6 ecost_7 ecnt_8 => wX0_shelveEnds nW nH cols rows ends_6 ecost_7 ecnt_8 r_1 x3_3 a1 (fun ends_11 ecost_12 ecnt_13 => pIn r_1 (nW + 1) (fun j_14 => ∀ v_15 : Int32, v_15 = (ecnt_13 j_14) → Post v_15 r_1 v_15 ends_11 ecost_12 ecnt_13)))))))) ∧ (¬ a1 ≤ 40 → Post (-1) ff fd ends ecost ecnt))))
def wX1_thrown (th : Int32) (Post : Int32 → Prop) : Prop :=
  Post th
def jX1_column_30 (nW : Nat) (nH : Nat) (a1 : Int32) (a2 : Int32) (a3 : Int32) (Post : (Int32) → (Nat → Int32) → Prop) (s0 : Int32) (th : Int32) (dk : Nat → Int32) : Prop :=
  ((s0 = 0 → pIn ((60 * a2) + a1) 2400 (fun j_1 => Post s0 (upd dk j_1 (vp_nar .boolean a3)))) ∧ (¬ s0 = 0 → Post s0 dk))
def jX1_column_25 (nW : Nat) (nH : Nat) (a1 : Int32) (a2 : Int32) (a3 : Int32) (Post : (Int32) → (Nat → Int32) → Prop) (th : Int32) (dk : Nat → Int32) : Prop :=
  jX1_column_30 nW nH a1 a2 a3 Post 1 th dk
def wX1_column (nW : Nat) (nH : Nat) (th : Int32) (dk : Nat → Int32) (a1 : Int32) (a2 : Int32) (a3 : Int32) (Post : (Int32) → (Nat → Int32) → Prop) : Prop :=
  ((a1 < 0 → jX1_column_25 nW nH a1 a2 a3 Post th dk) ∧ (¬ a1 < 0 → (((nI nW) ≤ a1 → jX1_column_25 nW nH a1 a2 a3 Post th dk) ∧ (¬ (nI nW) ≤ a1 → ((a2 < 0 → jX1_column_25 nW nH a1 a2 a3 Post th dk) ∧ (¬ a2 < 0 → ((a2 < (nI nH) → jX1_column_30 nW nH a1 a2 a3 Post 0 th dk) ∧ (¬ a2 < (nI nH) → jX1_column_25 nW nH a1 a2 a3 Post th dk))))))))
def wX1_isDark (dk : Nat → Int32) (a1 : Int32) (a2 : Int32) (Post : Int32 → Prop) : Prop :=
  pIn ((60 * a2) + a1) 2400 (fun j_1 => (pZ (dk j_1) ∧ Post (dk j_1)))
def bX1_hasDark_4 (nW : Nat) (nH : Nat) (dk : Nat → Int32) (a1 : Int32) (Post : Int32 → Prop) (r4 : Int32 → Int32 → Prop) (x2 : Int32) (x3 : Int32) : Prop :=
  (((nI nH) ≤ x3 → (pZ x2 ∧ Post x2)) ∧ (¬ (nI nH) ≤ x3 → ((a1 < 0 → (pZ x2 ∧ Post x2)) ∧ (¬ a1 < 0 → (((nI nW) ≤ a1 → (pZ x2 ∧ Post x2)) ∧ (¬ (nI nW) ≤ a1 → ((x2 = 0 → wX1_isDark dk a1 x3 (fun r_1 => ((r_1 = 0 → r4 0 (x3 + 1)) ∧ (¬ r_1 = 0 → r4 1 (x3 + 1))))) ∧ (¬ x2 = 0 → r4 1 (x3 + 1)))))))))
def lX1_hasDark_4 (nW : Nat) (nH : Nat) (dk : Nat → Int32) (a1 : Int32) (Post : Int32 → Prop) : Nat → Int32 → Int32 → Prop
  | 0, _, _ => False
  | n + 1, x2, x3 => bX1_hasDark_4 nW nH dk a1 Post (lX1_hasDark_4 nW nH dk a1 Post n) x2 x3
def wX1_hasDark (nW : Nat) (nH : Nat) (dk : Nat → Int32) (a1 : Int32) (Post : Int32 → Prop) : Prop :=
  ∃ n : Nat, lX1_hasDark_4 nW nH dk a1 Post n 0 0
def bX1_inRow_4 (nW : Nat) (dk : Nat → Int32) (a1 : Int32) (Post : Int32 → Prop) (r4 : Int32 → Int32 → Prop) (x2 : Int32) (x3 : Int32) : Prop :=
  (((nI nW) ≤ x3 → Post x2) ∧ (¬ (nI nW) ≤ x3 → wX1_isDark dk x3 a1 (fun r_1 => ((r_1 = 0 → r4 x2 (x3 + 1)) ∧ (¬ r_1 = 0 → ∀ x2_2 : Int32, x2_2 = (x2 + 1) → r4 x2_2 (x3 + 1))))))
def lX1_inRow_4 (nW : Nat) (dk : Nat → Int32) (a1 : Int32) (Post : Int32 → Prop) : Nat → Int32 → Int32 → Prop
  | 0, _, _ => False
  | n + 1, x2, x3 => bX1_inRow_4 nW dk a1 Post (lX1_inRow_4 nW dk a1 Post n) x2 x3
def wX1_inRow (nW : Nat) (dk : Nat → Int32) (a1 : Int32) (Post : Int32 → Prop) : Prop :=
  ∃ n : Nat, lX1_inRow_4 nW dk a1 Post n 0 0
def bX1_mostInRow_4 (nW : Nat) (nH : Nat) (dk : Nat → Int32) (Post : Int32 → Prop) (r4 : Int32 → Int32 → Prop) (x1 : Int32) (x2 : Int32) : Prop :=
  (((nI nH) ≤ x2 → Post x1) ∧ (¬ (nI nH) ≤ x2 → wX1_inRow nW dk x2 (fun r_1 => ((r_1 ≤ x1 → r4 x1 (x2 + 1)) ∧ (¬ r_1 ≤ x1 → wX1_inRow nW dk x2 (fun r_2 => r4 r_2 (x2 + 1)))))))
def lX1_mostInRow_4 (nW : Nat) (nH : Nat) (dk : Nat → Int32) (Post : Int32 → Prop) : Nat → Int32 → Int32 → Prop
  | 0, _, _ => False
  | n + 1, x1, x2 => bX1_mostInRow_4 nW nH dk Post (lX1_mostInRow_4 nW nH dk Post n) x1 x2
def wX1_mostInRow (nW : Nat) (nH : Nat) (dk : Nat → Int32) (Post : Int32 → Prop) : Prop :=
  ∃ n : Nat, lX1_mostInRow_4 nW nH dk Post n 0 0
def bX1_middle_7 (nW : Nat) (nH : Nat) (dk : Nat → Int32) (Post : Int32 → Prop) (r7 : Int32 → Int32 → Prop) (x1 : Int32) (x2 : Int32) : Prop :=
  wX1_inRow nW dk x2 (fun r_2 => ((x1 ≤ (2 * r_2) → Post x2) ∧ (¬ x1 ≤ (2 * r_2) → r7 x1 (x2 + 1))))
def lX1_middle_7 (nW : Nat) (nH : Nat) (dk : Nat → Int32) (Post : Int32 → Prop) : Nat → Int32 → Int32 → Prop
  | 0, _, _ => False
  | n + 1, x1, x2 => bX1_middle_7 nW nH dk Post (lX1_middle_7 nW nH dk Post n) x1 x2
def wX1_middle (nW : Nat) (nH : Nat) (dk : Nat → Int32) (Post : Int32 → Prop) : Prop :=
  wX1_mostInRow nW nH dk (fun r_1 => ∃ n : Nat, lX1_middle_7 nW nH dk Post n r_1 0)
def bX1_baseline_12 (nW : Nat) (nH : Nat) (dk : Nat → Int32) (Post : Int32 → Prop) (r12 : Int32 → Int32 → Prop) (x1 : Int32) (x2 : Int32) : Prop :=
  wX1_inRow nW dk x2 (fun r_3 => ((x1 ≤ (2 * r_3) → Post x2) ∧ (¬ x1 ≤ (2 * r_3) → r12 x1 (x2 + (-1)))))
def lX1_baseline_12 (nW : Nat) (nH : Nat) (dk : Nat → Int32) (Post : Int32 → Prop) : Nat → Int32 → Int32 → Prop
  | 0, _, _ => False
  | n + 1, x1, x2 => bX1_baseline_12 nW nH dk Post (lX1_baseline_12 nW nH dk Post n) x1 x2
def wX1_baseline (nW : Nat) (nH : Nat) (dk : Nat → Int32) (Post : Int32 → Prop) : Prop :=
  wX1_mostInRow nW nH dk (fun r_1 => ∀ x2_2 : Int32, x2_2 = ((nI nH) - 1) → ∃ n : Nat, lX1_baseline_12 nW nH dk Post n r_1 x2_2)
def bX1_from_2 (nW : Nat) (nH : Nat) (dk : Nat → Int32) (Post : Int32 → Prop) (r2 : Int32 → Prop) (x1 : Int32) : Prop :=
  wX1_hasDark nW nH dk x1 (fun r_1 => ((r_1 = 0 → r2 (x1 + 1)) ∧ (¬ r_1 = 0 → Post x1)))
def lX1_from_2 (nW : Nat) (nH : Nat) (dk : Nat → Int32) (Post : Int32 → Prop) : Nat → Int32 → Prop
  | 0, _ => False
  | n + 1, x1 => bX1_from_2 nW nH dk Post (lX1_from_2 nW nH dk Post n) x1
def wX1_from (nW : Nat) (nH : Nat) (dk : Nat → Int32) (Post : Int32 → Prop) : Prop :=
  ∃ n : Nat, lX1_from_2 nW nH dk Post n 0
def bX1_until_5 (nW : Nat) (nH : Nat) (dk : Nat → Int32) (Post : Int32 → Prop) (r5 : Int32 → Prop) (x1 : Int32) : Prop :=
  wX1_hasDark nW nH dk (x1 - 1) (fun r_2 => ((r_2 = 0 → r5 (x1 + (-1))) ∧ (¬ r_2 = 0 → Post x1)))
def lX1_until_5 (nW : Nat) (nH : Nat) (dk : Nat → Int32) (Post : Int32 → Prop) : Nat → Int32 → Prop
  | 0, _ => False
  | n + 1, x1 => bX1_until_5 nW nH dk Post (lX1_until_5 nW nH dk Post n) x1
def wX1_until (nW : Nat) (nH : Nat) (dk : Nat → Int32) (Post : Int32 → Prop) : Prop :=
  ∀ x1_1 : Int32, x1_1 = (nI nW) → ∃ n : Nat, lX1_until_5 nW nH dk Post n x1_1
def wX1_due (nW : Nat) (nH : Nat) (dk : Nat → Int32) (Post : Int32 → Prop) : Prop :=
  wX1_baseline nW nH dk (fun r_1 => wX1_middle nW nH dk (fun r_2 => Post (((3 * (r_1 - r_2)) / 4) + 2)))
def bX1_touch_4 (nH : Nat) (dk : Nat → Int32) (a1 : Int32) (Post : Int32 → Prop) (r4 : Int32 → Int32 → Prop) (x2 : Int32) (x3 : Int32) : Prop :=
  (((nI nH) ≤ x3 → Post x2) ∧ (¬ (nI nH) ≤ x3 → wX1_isDark dk (a1 - 1) x3 (fun r_1 => ((r_1 = 0 → r4 x2 (x3 + 1)) ∧ (¬ r_1 = 0 → wX1_isDark dk a1 x3 (fun r_2 => ((r_2 = 0 → r4 x2 (x3 + 1)) ∧ (¬ r_2 = 0 → ∀ x2_3 : Int32, x2_3 = (x2 + 1) → r4 x2_3 (x3 + 1)))))))))
def lX1_touch_4 (nH : Nat) (dk : Nat → Int32) (a1 : Int32) (Post : Int32 → Prop) : Nat → Int32 → Int32 → Prop
  | 0, _, _ => False
  | n + 1, x2, x3 => bX1_touch_4 nH dk a1 Post (lX1_touch_4 nH dk a1 Post n) x2 x3
def wX1_touch (nH : Nat) (dk : Nat → Int32) (a1 : Int32) (Post : Int32 → Prop) : Prop :=
  ∃ n : Nat, lX1_touch_4 nH dk a1 Post n 0 0
def wX1_mayCut (nW : Nat) (nH : Nat) (dk : Nat → Int32) (a1 : Int32) (Post : Int32 → Prop) : Prop :=
  wX1_touch nH dk a1 (fun r_1 => ((3 ≤ r_1 → Post 0) ∧ (¬ 3 ≤ r_1 → wX1_hasDark nW nH dk (a1 - 1) (fun r_2 => ((r_2 = 0 → wX1_hasDark nW nH dk a1 (fun r_3 => ((r_3 = 0 → Post 0) ∧ (¬ r_3 = 0 → Post 1)))) ∧ (¬ r_2 = 0 → Post 1))))))
def jX1_isBroken_70 (dk : Nat → Int32) (a1 : Int32) (a2 : Int32) (a3 : Int32) (Post : Int32 → Prop) (r12 : Int32 → Int32 → Int32 → Int32 → Prop) (x4 : Int32) (x6 : Int32) (x7 : Int32) (s0 : Int32) : Prop :=
  ((x4 = 0 → wX1_isDark dk x7 a3 (fun r_1 => ((r_1 = 0 → r12 0 s0 x6 (x7 + 1)) ∧ (¬ r_1 = 0 → r12 1 s0 x6 (x7 + 1))))) ∧ (¬ x4 = 0 → r12 1 s0 x6 (x7 + 1)))
def jX1_isBroken_69 (dk : Nat → Int32) (a1 : Int32) (a2 : Int32) (a3 : Int32) (Post : Int32 → Prop) (r12 : Int32 → Int32 → Int32 → Int32 → Prop) (x4 : Int32) (x6 : Int32) (x7 : Int32) : Prop :=
  jX1_isBroken_70 dk a1 a2 a3 Post r12 x4 x6 x7 0
def jX1_isBroken_48 (dk : Nat → Int32) (a1 : Int32) (a2 : Int32) (a3 : Int32) (Post : Int32 → Prop) (r12 : Int32 → Int32 → Int32 → Int32 → Prop) (x4 : Int32) (x7 : Int32) (s0 : Int32) : Prop :=
  ((x4 = 0 → jX1_isBroken_69 dk a1 a2 a3 Post r12 x4 s0 x7) ∧ (¬ x4 = 0 → wX1_isDark dk x7 a3 (fun r_2 => ((r_2 = 0 → jX1_isBroken_70 dk a1 a2 a3 Post r12 x4 s0 x7 1) ∧ (¬ r_2 = 0 → jX1_isBroken_69 dk a1 a2 a3 Post r12 x4 s0 x7)))))
def jX1_isBroken_43 (dk : Nat → Int32) (a1 : Int32) (a2 : Int32) (a3 : Int32) (Post : Int32 → Prop) (r12 : Int32 → Int32 → Int32 → Int32 → Prop) (x4 : Int32) (x7 : Int32) : Prop :=
  jX1_isBroken_48 dk a1 a2 a3 Post r12 x4 x7 1
def jX1_isBroken_47 (dk : Nat → Int32) (a1 : Int32) (a2 : Int32) (a3 : Int32) (Post : Int32 → Prop) (r12 : Int32 → Int32 → Int32 → Int32 → Prop) (x4 : Int32) (x7 : Int32) : Prop :=
  jX1_isBroken_48 dk a1 a2 a3 Post r12 x4 x7 0
def bX1_isBroken_12 (dk : Nat → Int32) (a1 : Int32) (a2 : Int32) (a3 : Int32) (Post : Int32 → Prop) (r12 : Int32 → Int32 → Int32 → Int32 → Prop) (x4 : Int32) (x5 : Int32) (x6 : Int32) (x7 : Int32) : Prop :=
  ((a2 ≤ x7 → (pZ x6 ∧ Post x6)) ∧ (¬ a2 ≤ x7 → ((x6 = 0 → ((x4 = 0 → jX1_isBroken_47 dk a1 a2 a3 Post r12 x4 x7) ∧ (¬ x4 = 0 → ((x5 = 0 → jX1_isBroken_47 dk a1 a2 a3 Post r12 x4 x7) ∧ (¬ x5 = 0 → wX1_isDark dk x7 a3 (fun r_3 => ((r_3 = 0 → jX1_isBroken_47 dk a1 a2 a3 Post r12 x4 x7) ∧ (¬ r_3 = 0 → jX1_isBroken_43 dk a1 a2 a3 Post r12 x4 x7)))))))) ∧ (¬ x6 = 0 → jX1_isBroken_43 dk a1 a2 a3 Post r12 x4 x7))))
def lX1_isBroken_12 (dk : Nat → Int32) (a1 : Int32) (a2 : Int32) (a3 : Int32) (Post : Int32 → Prop) : Nat → Int32 → Int32 → Int32 → Int32 → Prop
  | 0, _, _, _, _ => False
  | n + 1, x4, x5, x6, x7 => bX1_isBroken_12 dk a1 a2 a3 Post (lX1_isBroken_12 dk a1 a2 a3 Post n) x4 x5 x6 x7
def wX1_isBroken (dk : Nat → Int32) (a1 : Int32) (a2 : Int32) (a3 : Int32) (Post : Int32 → Prop) : Prop :=
  ∃ n : Nat, lX1_isBroken_12 dk a1 a2 a3 Post n 0 0 0 a1
def bX1_sign_115 (nW : Nat) (nH : Nat) (wd : Int32) (dk : Nat → Int32) (a1 : Int32) (a2 : Int32) (Post : Int64 → Prop) (r115 : Int64 → Int32 → Int32 → Prop) (x6 : Int64) (x8 : Int32) (x9 : Int32) : Prop :=
  (((nI nH) ≤ x9 → ((x8 ≤ 0 → Post x6) ∧ (¬ x8 ≤ 0 → Post (x6 + (2 * (Int32.toInt64 (x8 - 1))))))) ∧ (¬ (nI nH) ≤ x9 → wX1_isBroken dk a1 a2 x9 (fun r_5 => ((r_5 = 0 → r115 x6 x8 (x9 + 1)) ∧ (¬ r_5 = 0 → ∀ x8_6 : Int32, x8_6 = (x8 + 1) → r115 x6 x8_6 (x9 + 1))))))
def lX1_sign_115 (nW : Nat) (nH : Nat) (wd : Int32) (dk : Nat → Int32) (a1 : Int32) (a2 : Int32) (Post : Int64 → Prop) : Nat → Int64 → Int32 → Int32 → Prop
  | 0, _, _, _ => False
  | n + 1, x6, x8, x9 => bX1_sign_115 nW nH wd dk a1 a2 Post (lX1_sign_115 nW nH wd dk a1 a2 Post n) x6 x8 x9
def bX1_sign_74 (nW : Nat) (nH : Nat) (wd : Int32) (dk : Nat → Int32) (a1 : Int32) (a2 : Int32) (Post : Int64 → Prop) (r74 : Int32 → Int64 → Int32 → Prop) (x4 : Int32) (x6 : Int64) (x8 : Int32) : Prop :=
  ((x4 < x8 → ∃ n : Nat, lX1_sign_115 nW nH wd dk a1 a2 Post n x6 0 0) ∧ (¬ x4 < x8 → wX1_hasDark nW nH dk x8 (fun r_8 => ((r_8 = 0 → ∀ x6_9 : Int64, x6_9 = (x6 + 5) → r74 x4 x6_9 (x8 + 1)) ∧ (¬ r_8 = 0 → r74 x4 x6 (x8 + 1))))))
def lX1_sign_74 (nW : Nat) (nH : Nat) (wd : Int32) (dk : Nat → Int32) (a1 : Int32) (a2 : Int32) (Post : Int64 → Prop) : Nat → Int32 → Int64 → Int32 → Prop
  | 0, _, _, _ => False
  | n + 1, x4, x6, x8 => bX1_sign_74 nW nH wd dk a1 a2 Post (lX1_sign_74 nW nH wd dk a1 a2 Post n) x4 x6 x8
def bX1_sign_35 (nW : Nat) (nH : Nat) (wd : Int32) (dk : Nat → Int32) (a1 : Int32) (a2 : Int32) (Post : Int64 → Prop) (r35 : Int32 → Int32 → Prop) (x3 : Int32) (x4 : Int32) : Prop :=
  wX1_hasDark nW nH dk x4 (fun r_2 => ((r_2 = 0 → r35 x3 (x4 + (-1))) ∧ (¬ r_2 = 0 → ∀ x5_3 : Int32, x5_3 = (((x4 - x3) + 1) - wd) → ∀ x6_4 : Int64, x6_4 = (Int32.toInt64 (x5_3 * x5_3)) → ∃ n : Nat, lX1_sign_74 nW nH wd dk a1 a2 Post n x4 x6_4 x3)))
def lX1_sign_35 (nW : Nat) (nH : Nat) (wd : Int32) (dk : Nat → Int32) (a1 : Int32) (a2 : Int32) (Post : Int64 → Prop) : Nat → Int32 → Int32 → Prop
  | 0, _, _ => False
  | n + 1, x3, x4 => bX1_sign_35 nW nH wd dk a1 a2 Post (lX1_sign_35 nW nH wd dk a1 a2 Post n) x3 x4
def jX1_sign_21 (nW : Nat) (nH : Nat) (wd : Int32) (dk : Nat → Int32) (a1 : Int32) (a2 : Int32) (Post : Int64 → Prop) (x3 : Int32) : Prop :=
  ((x3 = a2 → Post (-1)) ∧ (¬ x3 = a2 → ∀ x4_1 : Int32, x4_1 = (a2 - 1) → ∃ n : Nat, lX1_sign_35 nW nH wd dk a1 a2 Post n x3 x4_1))
def bX1_sign_2 (nW : Nat) (nH : Nat) (wd : Int32) (dk : Nat → Int32) (a1 : Int32) (a2 : Int32) (Post : Int64 → Prop) (r2 : Int32 → Prop) (x3 : Int32) : Prop :=
  ((a2 ≤ x3 → jX1_sign_21 nW nH wd dk a1 a2 Post x3) ∧ (¬ a2 ≤ x3 → wX1_hasDark nW nH dk x3 (fun r_12 => ((r_12 = 0 → r2 (x3 + 1)) ∧ (¬ r_12 = 0 → jX1_sign_21 nW nH wd dk a1 a2 Post x3)))))
def lX1_sign_2 (nW : Nat) (nH : Nat) (wd : Int32) (dk : Nat → Int32) (a1 : Int32) (a2 : Int32) (Post : Int64 → Prop) : Nat → Int32 → Prop
  | 0, _ => False
  | n + 1, x3 => bX1_sign_2 nW nH wd dk a1 a2 Post (lX1_sign_2 nW nH wd dk a1 a2 Post n) x3
def wX1_sign (nW : Nat) (nH : Nat) (wd : Int32) (dk : Nat → Int32) (a1 : Int32) (a2 : Int32) (Post : Int64 → Prop) : Prop :=
  ∃ n : Nat, lX1_sign_2 nW nH wd dk a1 a2 Post n a1
def bX1_keep_86 (a1 : Int32) (a2 : Int64) (a4 : Int32) (a5 : Int32) (Post : (Nat → Int32) → (Nat → Int64) → (Nat → Int32) → (Nat → Int32) → Prop) (r86 : Int32 → Int32 → (Nat → Int32) → (Nat → Int64) → (Nat → Int32) → (Nat → Int32) → Prop) (x6 : Int32) (x7 : Int32) (mn : Nat → Int32) (cs : Nat → Int64) (nx : Nat → Int32) (gs : Nat → Int32) : Prop :=
  ((x7 ≤ x6 → pIn ((40 * a1) + x6) 2440 (fun j_7 => pIn ((40 * a1) + x6) 2440 (fun j_8 => pIn ((40 * a1) + x6) 2440 (fun j_9 => Post mn (vp_updL cs j_7 a2) (upd nx j_8 a4) (upd gs j_9 a5))))) ∧ (¬ x7 ≤ x6 → pIn (((40 * a1) + x7) - 1) 2440 (fun j_10 => pIn ((40 * a1) + x7) 2440 (fun j_11 => pIn (((40 * a1) + x7) - 1) 2440 (fun j_12 => pIn ((40 * a1) + x7) 2440 (fun j_13 => pIn (((40 * a1) + x7) - 1) 2440 (fun j_14 => pIn ((40 * a1) + x7) 2440 (fun j_15 => r86 x6 (x7 + (-1)) mn (vp_updL cs j_11 (cs j_10)) (upd nx j_13 (nx j_12)) (upd gs j_15 (gs j_14))))))))))
def lX1_keep_86 (a1 : Int32) (a2 : Int64) (a4 : Int32) (a5 : Int32) (Post : (Nat → Int32) → (Nat → Int64) → (Nat → Int32) → (Nat → Int32) → Prop) : Nat → Int32 → Int32 → (Nat → Int32) → (Nat → Int64) → (Nat → Int32) → (Nat → Int32) → Prop
  | 0, _, _, _, _, _, _ => False
  | n + 1, x6, x7, mn, cs, nx, gs => bX1_keep_86 a1 a2 a4 a5 Post (lX1_keep_86 a1 a2 a4 a5 Post n) x6 x7 mn cs nx gs
def jX1_keep_75 (a1 : Int32) (a2 : Int64) (a4 : Int32) (a5 : Int32) (Post : (Nat → Int32) → (Nat → Int64) → (Nat → Int32) → (Nat → Int32) → Prop) (x6 : Int32) (s0 : Int32) (s1 : Int32) (mn : Nat → Int32) (cs : Nat → Int64) (nx : Nat → Int32) (gs : Nat → Int32) : Prop :=
  pIn s1 61 (fun j_4 => pIn a1 61 (fun j_5 => ∀ x7_6 : Int32, x7_6 = (((upd mn j_4 s0) j_5) - 1) → ∃ n : Nat, lX1_keep_86 a1 a2 a4 a5 Post n x6 x7_6 (upd mn j_4 s0) cs nx gs))
def jX1_keep_38 (a1 : Int32) (a2 : Int64) (a4 : Int32) (a5 : Int32) (Post : (Nat → Int32) → (Nat → Int64) → (Nat → Int32) → (Nat → Int32) → Prop) (x6 : Int32) (mn : Nat → Int32) (cs : Nat → Int64) (nx : Nat → Int32) (gs : Nat → Int32) : Prop :=
  ((x6 = 40 → Post mn cs nx gs) ∧ (¬ x6 = 40 → pIn a1 61 (fun j_3 => ((40 ≤ (mn j_3) → jX1_keep_75 a1 a2 a4 a5 Post x6 40 a1 mn cs nx gs) ∧ (¬ 40 ≤ (mn j_3) → pIn a1 61 (fun j_17 => jX1_keep_75 a1 a2 a4 a5 Post x6 ((mn j_17) + 1) a1 mn cs nx gs))))))
def bX1_keep_8 (a1 : Int32) (a2 : Int64) (a4 : Int32) (a5 : Int32) (Post : (Nat → Int32) → (Nat → Int64) → (Nat → Int32) → (Nat → Int32) → Prop) (r8 : Int32 → (Nat → Int32) → (Nat → Int64) → (Nat → Int32) → (Nat → Int32) → Prop) (x6 : Int32) (mn : Nat → Int32) (cs : Nat → Int64) (nx : Nat → Int32) (gs : Nat → Int32) : Prop :=
  ((x6 ≤ 0 → jX1_keep_38 a1 a2 a4 a5 Post x6 mn cs nx gs) ∧ (¬ x6 ≤ 0 → pIn (((40 * a1) + x6) - 1) 2440 (fun j_18 => (((lg_cmp (cs j_18) a2) ≤ 0 → jX1_keep_38 a1 a2 a4 a5 Post x6 mn cs nx gs) ∧ (¬ (lg_cmp (cs j_18) a2) ≤ 0 → r8 (x6 + (-1)) mn cs nx gs)))))
def lX1_keep_8 (a1 : Int32) (a2 : Int64) (a4 : Int32) (a5 : Int32) (Post : (Nat → Int32) → (Nat → Int64) → (Nat → Int32) → (Nat → Int32) → Prop) : Nat → Int32 → (Nat → Int32) → (Nat → Int64) → (Nat → Int32) → (Nat → Int32) → Prop
  | 0, _, _, _, _, _ => False
  | n + 1, x6, mn, cs, nx, gs => bX1_keep_8 a1 a2 a4 a5 Post (lX1_keep_8 a1 a2 a4 a5 Post n) x6 mn cs nx gs
def wX1_keep (mn : Nat → Int32) (cs : Nat → Int64) (nx : Nat → Int32) (gs : Nat → Int32) (a1 : Int32) (a2 : Int64) (a4 : Int32) (a5 : Int32) (Post : (Nat → Int32) → (Nat → Int64) → (Nat → Int32) → (Nat → Int32) → Prop) : Prop :=
  pIn a1 61 (fun j_1 => ∀ x6_2 : Int32, x6_2 = (mn j_1) → ∃ n : Nat, lX1_keep_8 a1 a2 a4 a5 Post n x6_2 mn cs nx gs)
def bX1_look_62 (nW : Nat) (nH : Nat) (dk : Nat → Int32) (a1 : Int32) (a2 : Int32) (Post : (Int32) → (Nat → Int64) → (Nat → Int32) → Prop) (r52 : Int32 → (Int32) → (Nat → Int64) → (Nat → Int32) → Prop) (r62 : Int32 → Int32 → (Int32) → (Nat → Int64) → (Nat → Int32) → Prop) (x3 : Int32) (x4 : Int32) (wd : Int32) (sg : Nat → Int64) (my : Nat → Int32) : Prop :=
  ((a2 < x4 → r52 (x3 + 1) wd sg my) ∧ (¬ a2 < x4 → pIn x3 61 (fun j_3 => (((my j_3) = 0 → pIn ((61 * x3) + x4) 3721 (fun j_4 => r62 x3 (x4 + 1) wd (vp_updL sg j_4 (-1)) my)) ∧ (¬ (my j_3) = 0 → pIn x4 61 (fun j_5 => (((my j_5) = 0 → pIn ((61 * x3) + x4) 3721 (fun j_6 => r62 x3 (x4 + 1) wd (vp_updL sg j_6 (-1)) my)) ∧ (¬ (my j_5) = 0 → wX1_sign nW nH wd dk x3 x4 (fun r_7 => pIn ((61 * x3) + x4) 3721 (fun j_8 => r62 x3 (x4 + 1) wd (vp_updL sg j_8 r_7) my))))))))))
def lX1_look_62 (nW : Nat) (nH : Nat) (dk : Nat → Int32) (a1 : Int32) (a2 : Int32) (Post : (Int32) → (Nat → Int64) → (Nat → Int32) → Prop) (r52 : Int32 → (Int32) → (Nat → Int64) → (Nat → Int32) → Prop) : Nat → Int32 → Int32 → (Int32) → (Nat → Int64) → (Nat → Int32) → Prop
  | 0, _, _, _, _, _ => False
  | n + 1, x3, x4, wd, sg, my => bX1_look_62 nW nH dk a1 a2 Post r52 (lX1_look_62 nW nH dk a1 a2 Post r52 n) x3 x4 wd sg my
def bX1_look_52 (nW : Nat) (nH : Nat) (dk : Nat → Int32) (a1 : Int32) (a2 : Int32) (Post : (Int32) → (Nat → Int64) → (Nat → Int32) → Prop) (r52 : Int32 → (Int32) → (Nat → Int64) → (Nat → Int32) → Prop) (x3 : Int32) (wd : Int32) (sg : Nat → Int64) (my : Nat → Int32) : Prop :=
  ((a2 ≤ x3 → Post wd sg my) ∧ (¬ a2 ≤ x3 → ∀ x4_2 : Int32, x4_2 = (x3 + 1) → ∃ n : Nat, lX1_look_62 nW nH dk a1 a2 Post r52 n x3 x4_2 wd sg my))
def lX1_look_52 (nW : Nat) (nH : Nat) (dk : Nat → Int32) (a1 : Int32) (a2 : Int32) (Post : (Int32) → (Nat → Int64) → (Nat → Int32) → Prop) : Nat → Int32 → (Int32) → (Nat → Int64) → (Nat → Int32) → Prop
  | 0, _, _, _, _ => False
  | n + 1, x3, wd, sg, my => bX1_look_52 nW nH dk a1 a2 Post (lX1_look_52 nW nH dk a1 a2 Post n) x3 wd sg my
def bX1_look_10 (nW : Nat) (nH : Nat) (dk : Nat → Int32) (a1 : Int32) (a2 : Int32) (Post : (Int32) → (Nat → Int64) → (Nat → Int32) → Prop) (r10 : Int32 → (Int32) → (Nat → Int64) → (Nat → Int32) → Prop) (x3 : Int32) (wd : Int32) (sg : Nat → Int64) (my : Nat → Int32) : Prop :=
  ((a2 < x3 → ∃ n : Nat, lX1_look_52 nW nH dk a1 a2 Post n a1 wd sg my) ∧ (¬ a2 < x3 → ((x3 = a1 → pIn x3 61 (fun j_11 => r10 (x3 + 1) wd sg (upd my j_11 (vp_nar .boolean 1)))) ∧ (¬ x3 = a1 → ((x3 = a2 → pIn x3 61 (fun j_12 => r10 (x3 + 1) wd sg (upd my j_12 (vp_nar .boolean 1)))) ∧ (¬ x3 = a2 → wX1_mayCut nW nH dk x3 (fun r_13 => ((r_13 = 0 → pIn x3 61 (fun j_14 => r10 (x3 + 1) wd sg (upd my j_14 (vp_nar .boolean 0)))) ∧ (¬ r_13 = 0 → pIn x3 61 (fun j_15 => r10 (x3 + 1) wd sg (upd my j_15 (vp_nar .boolean 1))))))))))))
def lX1_look_10 (nW : Nat) (nH : Nat) (dk : Nat → Int32) (a1 : Int32) (a2 : Int32) (Post : (Int32) → (Nat → Int64) → (Nat → Int32) → Prop) : Nat → Int32 → (Int32) → (Nat → Int64) → (Nat → Int32) → Prop
  | 0, _, _, _, _ => False
  | n + 1, x3, wd, sg, my => bX1_look_10 nW nH dk a1 a2 Post (lX1_look_10 nW nH dk a1 a2 Post n) x3 wd sg my
def wX1_look (nW : Nat) (nH : Nat) (dk : Nat → Int32) (wd : Int32) (sg : Nat → Int64) (my : Nat → Int32) (a1 : Int32) (a2 : Int32) (Post : (Int32) → (Nat → Int64) → (Nat → Int32) → Prop) : Prop :=
  wX1_due nW nH dk (fun r_1 => ∃ n : Nat, lX1_look_10 nW nH dk a1 a2 Post n a1 r_1 sg my)
def jX1_fill_117 (nW : Nat) (nH : Nat) (dk : Nat → Int32) (a1 : Int32) (a2 : Int32) (Post : (Int32) → (Nat → Int32) → (Nat → Int64) → (Nat → Int32) → (Nat → Int32) → (Nat → Int64) → (Nat → Int32) → Prop) (r8 : Int32 → (Int32) → (Nat → Int32) → (Nat → Int64) → (Nat → Int32) → (Nat → Int32) → (Nat → Int64) → (Nat → Int32) → Prop) (r50 : Int32 → Int32 → (Int32) → (Nat → Int32) → (Nat → Int64) → (Nat → Int32) → (Nat → Int32) → (Nat → Int64) → (Nat → Int32) → Prop) (r73 : Int32 → Int32 → Int64 → Int32 → (Int32) → (Nat → Int32) → (Nat → Int64) → (Nat → Int32) → (Nat → Int32) → (Nat → Int64) → (Nat → Int32) → Prop) (x3 : Int32) (x4 : Int32) (x5 : Int64) (x7 : Int32) (s0 : Int64) (s1 : Int64) (s2 : Int32) (wd : Int32) (mn : Nat → Int32) (cs : Nat → Int64) (nx : Nat → Int32) (gs : Nat → Int32) (sg : Nat → Int64) (my : Nat → Int32) : Prop :=
  pIn ((40 * x4) + x7) 2440 (fun j_12 => wX1_keep mn cs nx gs s2 ((s1 + s0) + (cs j_12)) x4 x7 (fun mn_15 cs_16 nx_17 gs_18 => r73 x3 x4 x5 (x7 + 1) wd mn_15 cs_16 nx_17 gs_18 sg my))
def bX1_fill_73 (nW : Nat) (nH : Nat) (dk : Nat → Int32) (a1 : Int32) (a2 : Int32) (Post : (Int32) → (Nat → Int32) → (Nat → Int64) → (Nat → Int32) → (Nat → Int32) → (Nat → Int64) → (Nat → Int32) → Prop) (r8 : Int32 → (Int32) → (Nat → Int32) → (Nat → Int64) → (Nat → Int32) → (Nat → Int32) → (Nat → Int64) → (Nat → Int32) → Prop) (r50 : Int32 → Int32 → (Int32) → (Nat → Int32) → (Nat → Int64) → (Nat → Int32) → (Nat → Int32) → (Nat → Int64) → (Nat → Int32) → Prop) (r73 : Int32 → Int32 → Int64 → Int32 → (Int32) → (Nat → Int32) → (Nat → Int64) → (Nat → Int32) → (Nat → Int32) → (Nat → Int64) → (Nat → Int32) → Prop) (x3 : Int32) (x4 : Int32) (x5 : Int64) (x7 : Int32) (wd : Int32) (mn : Nat → Int32) (cs : Nat → Int64) (nx : Nat → Int32) (gs : Nat → Int32) (sg : Nat → Int64) (my : Nat → Int32) : Prop :=
  pIn x4 61 (fun j_11 => (((mn j_11) ≤ x7 → r50 x3 (x4 + 1) wd mn cs nx gs sg my) ∧ (¬ (mn j_11) ≤ x7 → (((lg_cmp x5 0) < 0 → r50 x3 (x4 + 1) wd mn cs nx gs sg my) ∧ (¬ (lg_cmp x5 0) < 0 → ((a2 ≤ x4 → jX1_fill_117 nW nH dk a1 a2 Post r8 r50 r73 x3 x4 x5 x7 0 x5 x3 wd mn cs nx gs sg my) ∧ (¬ a2 ≤ x4 → wX1_touch nH dk x4 (fun r_19 => jX1_fill_117 nW nH dk a1 a2 Post r8 r50 r73 x3 x4 x5 x7 (10 * (Int32.toInt64 r_19)) x5 x3 wd mn cs nx gs sg my))))))))
def lX1_fill_73 (nW : Nat) (nH : Nat) (dk : Nat → Int32) (a1 : Int32) (a2 : Int32) (Post : (Int32) → (Nat → Int32) → (Nat → Int64) → (Nat → Int32) → (Nat → Int32) → (Nat → Int64) → (Nat → Int32) → Prop) (r8 : Int32 → (Int32) → (Nat → Int32) → (Nat → Int64) → (Nat → Int32) → (Nat → Int32) → (Nat → Int64) → (Nat → Int32) → Prop) (r50 : Int32 → Int32 → (Int32) → (Nat → Int32) → (Nat → Int64) → (Nat → Int32) → (Nat → Int32) → (Nat → Int64) → (Nat → Int32) → Prop) : Nat → Int32 → Int32 → Int64 → Int32 → (Int32) → (Nat → Int32) → (Nat → Int64) → (Nat → Int32) → (Nat → Int32) → (Nat → Int64) → (Nat → Int32) → Prop
  | 0, _, _, _, _, _, _, _, _, _, _, _ => False
  | n + 1, x3, x4, x5, x7, wd, mn, cs, nx, gs, sg, my => bX1_fill_73 nW nH dk a1 a2 Post r8 r50 (lX1_fill_73 nW nH dk a1 a2 Post r8 r50 n) x3 x4 x5 x7 wd mn cs nx gs sg my
def bX1_fill_50 (nW : Nat) (nH : Nat) (dk : Nat → Int32) (a1 : Int32) (a2 : Int32) (Post : (Int32) → (Nat → Int32) → (Nat → Int64) → (Nat → Int32) → (Nat → Int32) → (Nat → Int64) → (Nat → Int32) → Prop) (r8 : Int32 → (Int32) → (Nat → Int32) → (Nat → Int64) → (Nat → Int32) → (Nat → Int32) → (Nat → Int64) → (Nat → Int32) → Prop) (r50 : Int32 → Int32 → (Int32) → (Nat → Int32) → (Nat → Int64) → (Nat → Int32) → (Nat → Int32) → (Nat → Int64) → (Nat → Int32) → Prop) (x3 : Int32) (x4 : Int32) (wd : Int32) (mn : Nat → Int32) (cs : Nat → Int64) (nx : Nat → Int32) (gs : Nat → Int32) (sg : Nat → Int64) (my : Nat → Int32) : Prop :=
  ((a2 < x4 → r8 (x3 + (-1)) wd mn cs nx gs sg my) ∧ (¬ a2 < x4 → pIn ((61 * x3) + x4) 3721 (fun j_9 => ∀ x5_10 : Int64, x5_10 = (sg j_9) → ∃ n : Nat, lX1_fill_73 nW nH dk a1 a2 Post r8 r50 n x3 x4 x5_10 0 wd mn cs nx gs sg my)))
def lX1_fill_50 (nW : Nat) (nH : Nat) (dk : Nat → Int32) (a1 : Int32) (a2 : Int32) (Post : (Int32) → (Nat → Int32) → (Nat → Int64) → (Nat → Int32) → (Nat → Int32) → (Nat → Int64) → (Nat → Int32) → Prop) (r8 : Int32 → (Int32) → (Nat → Int32) → (Nat → Int64) → (Nat → Int32) → (Nat → Int32) → (Nat → Int64) → (Nat → Int32) → Prop) : Nat → Int32 → Int32 → (Int32) → (Nat → Int32) → (Nat → Int64) → (Nat → Int32) → (Nat → Int32) → (Nat → Int64) → (Nat → Int32) → Prop
  | 0, _, _, _, _, _, _, _, _, _ => False
  | n + 1, x3, x4, wd, mn, cs, nx, gs, sg, my => bX1_fill_50 nW nH dk a1 a2 Post r8 (lX1_fill_50 nW nH dk a1 a2 Post r8 n) x3 x4 wd mn cs nx gs sg my
def bX1_fill_8 (nW : Nat) (nH : Nat) (dk : Nat → Int32) (a1 : Int32) (a2 : Int32) (Post : (Int32) → (Nat → Int32) → (Nat → Int64) → (Nat → Int32) → (Nat → Int32) → (Nat → Int64) → (Nat → Int32) → Prop) (r8 : Int32 → (Int32) → (Nat → Int32) → (Nat → Int64) → (Nat → Int32) → (Nat → Int32) → (Nat → Int64) → (Nat → Int32) → Prop) (x3 : Int32) (wd : Int32) (mn : Nat → Int32) (cs : Nat → Int64) (nx : Nat → Int32) (gs : Nat → Int32) (sg : Nat → Int64) (my : Nat → Int32) : Prop :=
  ((x3 < a1 → Post wd mn cs nx gs sg my) ∧ (¬ x3 < a1 → pIn x3 61 (fun j_6 => ((x3 = a2 → wX1_keep (upd mn j_6 0) cs nx gs x3 0 (-1) (-1) (fun mn_24 cs_25 nx_26 gs_27 => r8 (x3 + (-1)) wd mn_24 cs_25 nx_26 gs_27 sg my)) ∧ (¬ x3 = a2 → pIn x3 61 (fun j_7 => (((my j_7) = 0 → r8 (x3 + (-1)) wd (upd mn j_6 0) cs nx gs sg my) ∧ (¬ (my j_7) = 0 → ∀ x4_8 : Int32, x4_8 = (x3 + 1) → ∃ n : Nat, lX1_fill_50 nW nH dk a1 a2 Post r8 n x3 x4_8 wd (upd mn j_6 0) cs nx gs sg my))))))))
def lX1_fill_8 (nW : Nat) (nH : Nat) (dk : Nat → Int32) (a1 : Int32) (a2 : Int32) (Post : (Int32) → (Nat → Int32) → (Nat → Int64) → (Nat → Int32) → (Nat → Int32) → (Nat → Int64) → (Nat → Int32) → Prop) : Nat → Int32 → (Int32) → (Nat → Int32) → (Nat → Int64) → (Nat → Int32) → (Nat → Int32) → (Nat → Int64) → (Nat → Int32) → Prop
  | 0, _, _, _, _, _, _, _, _ => False
  | n + 1, x3, wd, mn, cs, nx, gs, sg, my => bX1_fill_8 nW nH dk a1 a2 Post (lX1_fill_8 nW nH dk a1 a2 Post n) x3 wd mn cs nx gs sg my
def wX1_fill (nW : Nat) (nH : Nat) (dk : Nat → Int32) (wd : Int32) (mn : Nat → Int32) (cs : Nat → Int64) (nx : Nat → Int32) (gs : Nat → Int32) (sg : Nat → Int64) (my : Nat → Int32) (a1 : Int32) (a2 : Int32) (Post : (Int32) → (Nat → Int32) → (Nat → Int64) → (Nat → Int32) → (Nat → Int32) → (Nat → Int64) → (Nat → Int32) → Prop) : Prop :=
  wX1_look nW nH dk wd sg my a1 a2 (fun wd_3 sg_4 my_5 => ∃ n : Nat, lX1_fill_8 nW nH dk a1 a2 Post n a2 wd_3 mn cs nx gs sg_4 my_5)
def bX1_cut_110 (nW : Nat) (nH : Nat) (dk : Nat → Int32) (a1 : Int32) (Post : Int32 → (Int32) → (Int32) → (Int32) → (Nat → Int32) → (Nat → Int64) → (Nat → Int32) → (Nat → Int32) → (Nat → Int64) → (Nat → Int32) → (Nat → Int32) → (Nat → Int64) → (Nat → Int32) → Prop) (r72 : Int32 → Int32 → (Int32) → (Int32) → (Int32) → (Nat → Int32) → (Nat → Int64) → (Nat → Int32) → (Nat → Int32) → (Nat → Int64) → (Nat → Int32) → (Nat → Int32) → (Nat → Int64) → (Nat → Int32) → Prop) (r110 : Int32 → Int32 → Int32 → Int32 → (Int32) → (Int32) → (Int32) → (Nat → Int32) → (Nat → Int64) → (Nat → Int32) → (Nat → Int32) → (Nat → Int64) → (Nat → Int32) → (Nat → Int32) → (Nat → Int64) → (Nat → Int32) → Prop) (x2 : Int32) (x3 : Int32) (x4 : Int32) (x5 : Int32) (th : Int32) (fn : Int32) (wd : Int32) (mn : Nat → Int32) (cs : Nat → Int64) (nx : Nat → Int32) (gs : Nat → Int32) (pr : Nat → Int64) (ln : Nat → Int32) (wy : Nat → Int32) (sg : Nat → Int64) (my : Nat → Int32) : Prop :=
  ((x4 = (-1) → r72 x2 (x3 + 1) th fn wd mn cs nx gs pr ln wy sg my) ∧ (¬ x4 = (-1) → pIn x3 40 (fun j_17 => pIn ((62 * x3) + (ln j_17)) 2480 (fun j_18 => pIn x3 40 (fun j_19 => pIn x3 40 (fun j_20 => pIn ((40 * x4) + x5) 2440 (fun j_21 => ∀ x6_22 : Int32, x6_22 = (nx j_21) → pIn ((40 * x4) + x5) 2440 (fun j_23 => ∀ x5_24 : Int32, x5_24 = (gs j_23) → r110 x2 x3 x6_22 x5_24 th fn wd mn cs nx gs pr (upd ln j_20 ((ln j_19) + 1)) (upd wy j_18 x4) sg my))))))))
def lX1_cut_110 (nW : Nat) (nH : Nat) (dk : Nat → Int32) (a1 : Int32) (Post : Int32 → (Int32) → (Int32) → (Int32) → (Nat → Int32) → (Nat → Int64) → (Nat → Int32) → (Nat → Int32) → (Nat → Int64) → (Nat → Int32) → (Nat → Int32) → (Nat → Int64) → (Nat → Int32) → Prop) (r72 : Int32 → Int32 → (Int32) → (Int32) → (Int32) → (Nat → Int32) → (Nat → Int64) → (Nat → Int32) → (Nat → Int32) → (Nat → Int64) → (Nat → Int32) → (Nat → Int32) → (Nat → Int64) → (Nat → Int32) → Prop) : Nat → Int32 → Int32 → Int32 → Int32 → (Int32) → (Int32) → (Int32) → (Nat → Int32) → (Nat → Int64) → (Nat → Int32) → (Nat → Int32) → (Nat → Int64) → (Nat → Int32) → (Nat → Int32) → (Nat → Int64) → (Nat → Int32) → Prop
  | 0, _, _, _, _, _, _, _, _, _, _, _, _, _, _, _, _ => False
  | n + 1, x2, x3, x4, x5, th, fn, wd, mn, cs, nx, gs, pr, ln, wy, sg, my => bX1_cut_110 nW nH dk a1 Post r72 (lX1_cut_110 nW nH dk a1 Post r72 n) x2 x3 x4 x5 th fn wd mn cs nx gs pr ln wy sg my
def bX1_cut_72 (nW : Nat) (nH : Nat) (dk : Nat → Int32) (a1 : Int32) (Post : Int32 → (Int32) → (Int32) → (Int32) → (Nat → Int32) → (Nat → Int64) → (Nat → Int32) → (Nat → Int32) → (Nat → Int64) → (Nat → Int32) → (Nat → Int32) → (Nat → Int64) → (Nat → Int32) → Prop) (r72 : Int32 → Int32 → (Int32) → (Int32) → (Int32) → (Nat → Int32) → (Nat → Int64) → (Nat → Int32) → (Nat → Int32) → (Nat → Int64) → (Nat → Int32) → (Nat → Int32) → (Nat → Int64) → (Nat → Int32) → Prop) (x2 : Int32) (x3 : Int32) (th : Int32) (fn : Int32) (wd : Int32) (mn : Nat → Int32) (cs : Nat → Int64) (nx : Nat → Int32) (gs : Nat → Int32) (pr : Nat → Int64) (ln : Nat → Int32) (wy : Nat → Int32) (sg : Nat → Int64) (my : Nat → Int32) : Prop :=
  ((fn ≤ x3 → Post fn th fn wd mn cs nx gs pr ln wy sg my) ∧ (¬ fn ≤ x3 → pIn ((40 * x2) + x3) 2440 (fun j_14 => pIn x3 40 (fun j_15 => pIn x3 40 (fun j_16 => ∃ n : Nat, lX1_cut_110 nW nH dk a1 Post r72 n x2 x3 x2 x3 th fn wd mn cs nx gs (vp_updL pr j_15 (cs j_14)) (upd ln j_16 0) wy sg my)))))
def lX1_cut_72 (nW : Nat) (nH : Nat) (dk : Nat → Int32) (a1 : Int32) (Post : Int32 → (Int32) → (Int32) → (Int32) → (Nat → Int32) → (Nat → Int64) → (Nat → Int32) → (Nat → Int32) → (Nat → Int64) → (Nat → Int32) → (Nat → Int32) → (Nat → Int64) → (Nat → Int32) → Prop) : Nat → Int32 → Int32 → (Int32) → (Int32) → (Int32) → (Nat → Int32) → (Nat → Int64) → (Nat → Int32) → (Nat → Int32) → (Nat → Int64) → (Nat → Int32) → (Nat → Int32) → (Nat → Int64) → (Nat → Int32) → Prop
  | 0, _, _, _, _, _, _, _, _, _, _, _, _, _, _ => False
  | n + 1, x2, x3, th, fn, wd, mn, cs, nx, gs, pr, ln, wy, sg, my => bX1_cut_72 nW nH dk a1 Post (lX1_cut_72 nW nH dk a1 Post n) x2 x3 th fn wd mn cs nx gs pr ln wy sg my
def wX1_cut (nW : Nat) (nH : Nat) (dk : Nat → Int32) (th : Int32) (fn : Int32) (wd : Int32) (mn : Nat → Int32) (cs : Nat → Int64) (nx : Nat → Int32) (gs : Nat → Int32) (pr : Nat → Int64) (ln : Nat → Int32) (wy : Nat → Int32) (sg : Nat → Int64) (my : Nat → Int32) (a1 : Int32) (Post : Int32 → (Int32) → (Int32) → (Int32) → (Nat → Int32) → (Nat → Int64) → (Nat → Int32) → (Nat → Int32) → (Nat → Int64) → (Nat → Int32) → (Nat → Int32) → (Nat → Int64) → (Nat → Int32) → Prop) : Prop :=
  ((a1 < 1 → Post (-1) 0 fn wd mn cs nx gs pr ln wy sg my) ∧ (¬ a1 < 1 → ((a1 ≤ 40 → wX1_mostInRow nW nH dk (fun r_1 => ((r_1 = 0 → Post 0 0 0 wd mn cs nx gs pr ln wy sg my) ∧ (¬ r_1 = 0 → wX1_from nW nH dk (fun r_2 => wX1_until nW nH dk (fun r_3 => wX1_fill nW nH dk wd mn cs nx gs sg my r_2 r_3 (fun wd_6 mn_7 cs_8 nx_9 gs_10 sg_11 my_12 => pIn r_2 61 (fun j_13 => ((a1 ≤ (mn_7 j_13) → ∃ n : Nat, lX1_cut_72 nW nH dk a1 Post n r_2 0 0 a1 wd_6 mn_7 cs_8 nx_9 gs_10 pr ln wy sg_11 my_12) ∧ (¬ a1 ≤ (mn_7 j_13) → pIn r_2 61 (fun j_27 => ∀ v_28 : Int32, v_28 = (mn_7 j_27) → ∃ n : Nat, lX1_cut_72 nW nH dk a1 Post n r_2 0 0 v_28 wd_6 mn_7 cs_8 nx_9 gs_10 pr ln wy sg_11 my_12))))))))))) ∧ (¬ a1 ≤ 40 → Post (-1) 0 fn wd mn cs nx gs pr ln wy sg my))))
def wX1_way (fn : Int32) (ln : Nat → Int32) (wy : Nat → Int32) (th : Int32) (a1 : Int32) (a2 : Int32) (Post : Int32 → (Int32) → Prop) : Prop :=
  ((a1 < 0 → Post (-1) 0) ∧ (¬ a1 < 0 → ((fn ≤ a1 → Post (-1) 0) ∧ (¬ fn ≤ a1 → ((a2 < 0 → Post (-1) 0) ∧ (¬ a2 < 0 → pIn a1 40 (fun j_1 => ((a2 < (ln j_1) → pIn ((62 * a1) + a2) 2480 (fun j_2 => Post (wy j_2) 0)) ∧ (¬ a2 < (ln j_1) → Post (-1) 0)))))))))
def wX1_cost (fn : Int32) (pr : Nat → Int64) (th : Int32) (a1 : Int32) (Post : Int64 → (Int32) → Prop) : Prop :=
  ((a1 < 0 → Post (-1) 0) ∧ (¬ a1 < 0 → ((a1 < fn → pIn a1 40 (fun j_1 => Post (pr j_1) 0)) ∧ (¬ a1 < fn → Post (-1) 0))))
def wX1_signs (fn : Int32) (ln : Nat → Int32) (th : Int32) (a1 : Int32) (Post : Int32 → (Int32) → Prop) : Prop :=
  ((a1 < 0 → Post (-1) 0) ∧ (¬ a1 < 0 → ((a1 < fn → pIn a1 40 (fun j_1 => Post ((ln j_1) - 1) 0)) ∧ (¬ a1 < fn → Post (-1) 0))))
def bX1_base_89 (nW : Nat) (nH : Nat) (dk : Nat → Int32) (a1 : Int32) (Post : Int32 → (Int32) → Prop) (r89 : Int32 → Int32 → (Int32) → Prop) (x2 : Int32) (x3 : Int32) (th : Int32) : Prop :=
  wX1_until nW nH dk (fun r_4 => ((r_4 ≤ x3 → Post x2 th) ∧ (¬ r_4 ≤ x3 → wX1_mayCut nW nH dk x3 (fun r_5 => ((r_5 = 0 → r89 x2 (x3 + 1) th) ∧ (¬ r_5 = 0 → ∀ x2_6 : Int32, x2_6 = (x2 + 1) → r89 x2_6 (x3 + 1) th))))))
def lX1_base_89 (nW : Nat) (nH : Nat) (dk : Nat → Int32) (a1 : Int32) (Post : Int32 → (Int32) → Prop) : Nat → Int32 → Int32 → (Int32) → Prop
  | 0, _, _, _ => False
  | n + 1, x2, x3, th => bX1_base_89 nW nH dk a1 Post (lX1_base_89 nW nH dk a1 Post n) x2 x3 th
def wX1_base (nW : Nat) (nH : Nat) (dk : Nat → Int32) (th : Int32) (a1 : Int32) (Post : Int32 → (Int32) → Prop) : Prop :=
  wX1_mostInRow nW nH dk (fun r_1 => ((r_1 = 0 → Post (-1) 0) ∧ (¬ r_1 = 0 → ((a1 < 0 → Post (-1) 0) ∧ (¬ a1 < 0 → ((a1 ≤ 5 → ((5 ≤ a1 → wX1_from nW nH dk (fun r_2 => ∀ x3_3 : Int32, x3_3 = (r_2 + 1) → ∃ n : Nat, lX1_base_89 nW nH dk a1 Post n 0 x3_3 0)) ∧ (¬ 5 ≤ a1 → ((a1 = 0 → wX1_middle nW nH dk (fun r_12 => Post r_12 0)) ∧ (¬ a1 = 0 → ((a1 = 1 → wX1_baseline nW nH dk (fun r_11 => Post r_11 0)) ∧ (¬ a1 = 1 → ((a1 = 2 → wX1_due nW nH dk (fun r_10 => Post r_10 0)) ∧ (¬ a1 = 2 → ((a1 = 3 → wX1_from nW nH dk (fun r_9 => Post r_9 0)) ∧ (¬ a1 = 3 → wX1_until nW nH dk (fun r_8 => Post r_8 0)))))))))))) ∧ (¬ a1 ≤ 5 → Post (-1) 0)))))))
def jX1_columns_112 (nW : Nat) (nH : Nat) (dk : Nat → Int32) (a1 : Int32) (Post : Int32 → Prop) (r5 : Int32 → Int32 → Prop) (x2 : Int32) (x3 : Int32) (x4 : Int32) : Prop :=
  ((x4 = 0 → r5 x2 (x3 + 1)) ∧ (¬ x4 = 0 → ∀ x2_1 : Int32, x2_1 = (x2 + 1) → r5 x2_1 (x3 + 1)))
def jX1_columns_66 (nW : Nat) (nH : Nat) (dk : Nat → Int32) (a1 : Int32) (Post : Int32 → Prop) (r5 : Int32 → Int32 → Prop) (r17 : Int32 → Int32 → Int32 → Int32 → Prop) (x2 : Int32) (x3 : Int32) (x5 : Int32) (s0 : Int32) : Prop :=
  (((x3 - s0) < 0 → r17 x2 x3 0 (x5 + 1)) ∧ (¬ (x3 - s0) < 0 → (((nI nW) ≤ (x3 - s0) → r17 x2 x3 0 (x5 + 1)) ∧ (¬ (nI nW) ≤ (x3 - s0) → wX1_isDark dk (x3 - s0) x5 (fun r_3 => ((r_3 = 0 → r17 x2 x3 0 (x5 + 1)) ∧ (¬ r_3 = 0 → r17 x2 x3 1 (x5 + 1))))))))
def bX1_columns_17 (nW : Nat) (nH : Nat) (dk : Nat → Int32) (a1 : Int32) (Post : Int32 → Prop) (r5 : Int32 → Int32 → Prop) (r17 : Int32 → Int32 → Int32 → Int32 → Prop) (x2 : Int32) (x3 : Int32) (x4 : Int32) (x5 : Int32) : Prop :=
  (((nI nH) ≤ x5 → jX1_columns_112 nW nH dk a1 Post r5 x2 x3 x4) ∧ (¬ (nI nH) ≤ x5 → ((x4 = 0 → ∀ x6_2 : Int32, x6_2 = (a1 * (((nI nH) - 1) - x5)) → ((x6_2 < 0 → jX1_columns_66 nW nH dk a1 Post r5 r17 x2 x3 x5 (-((7 - x6_2) / 8))) ∧ (¬ x6_2 < 0 → jX1_columns_66 nW nH dk a1 Post r5 r17 x2 x3 x5 (x6_2 / 8)))) ∧ (¬ x4 = 0 → jX1_columns_112 nW nH dk a1 Post r5 x2 x3 x4))))
def lX1_columns_17 (nW : Nat) (nH : Nat) (dk : Nat → Int32) (a1 : Int32) (Post : Int32 → Prop) (r5 : Int32 → Int32 → Prop) : Nat → Int32 → Int32 → Int32 → Int32 → Prop
  | 0, _, _, _, _ => False
  | n + 1, x2, x3, x4, x5 => bX1_columns_17 nW nH dk a1 Post r5 (lX1_columns_17 nW nH dk a1 Post r5 n) x2 x3 x4 x5
def bX1_columns_5 (nW : Nat) (nH : Nat) (dk : Nat → Int32) (a1 : Int32) (Post : Int32 → Prop) (r5 : Int32 → Int32 → Prop) (x2 : Int32) (x3 : Int32) : Prop :=
  ((120 ≤ x3 → Post x2) ∧ (¬ 120 ≤ x3 → ∃ n : Nat, lX1_columns_17 nW nH dk a1 Post r5 n x2 x3 0 0))
def lX1_columns_5 (nW : Nat) (nH : Nat) (dk : Nat → Int32) (a1 : Int32) (Post : Int32 → Prop) : Nat → Int32 → Int32 → Prop
  | 0, _, _ => False
  | n + 1, x2, x3 => bX1_columns_5 nW nH dk a1 Post (lX1_columns_5 nW nH dk a1 Post n) x2 x3
def wX1_columns (nW : Nat) (nH : Nat) (dk : Nat → Int32) (a1 : Int32) (Post : Int32 → Prop) : Prop :=
  ∃ n : Nat, lX1_columns_5 nW nH dk a1 Post n 0 (-60)
def jX1_slant_73 (nW : Nat) (nH : Nat) (dk : Nat → Int32) (Post : Int32 → (Int32) → Prop) (r15 : Int32 → Int32 → Int32 → (Int32) → Prop) (x2 : Int32) (x3 : Int32) (x5 : Int32) (s0 : Int32) (th : Int32) : Prop :=
  ((x2 ≤ x5 → r15 s0 x2 (x3 + 1) th) ∧ (¬ x2 ≤ x5 → r15 s0 x5 (x3 + 1) th))
def jX1_slant_54 (nW : Nat) (nH : Nat) (dk : Nat → Int32) (Post : Int32 → (Int32) → Prop) (r15 : Int32 → Int32 → Int32 → (Int32) → Prop) (x1 : Int32) (x3 : Int32) (s0 : Int32) (th : Int32) : Prop :=
  wX1_columns nW nH dk x3 (fun r_3 => ((s0 ≤ r_3 → jX1_slant_73 nW nH dk Post r15 s0 x3 r_3 x1 th) ∧ (¬ s0 ≤ r_3 → jX1_slant_73 nW nH dk Post r15 s0 x3 r_3 x3 th)))
def jX1_slant_41 (nW : Nat) (nH : Nat) (dk : Nat → Int32) (Post : Int32 → (Int32) → Prop) (r15 : Int32 → Int32 → Int32 → (Int32) → Prop) (x2 : Int32) (x3 : Int32) (x4 : Int32) (s0 : Int32) (th : Int32) : Prop :=
  ((x2 ≤ x4 → jX1_slant_54 nW nH dk Post r15 s0 x3 x2 th) ∧ (¬ x2 ≤ x4 → jX1_slant_54 nW nH dk Post r15 s0 x3 x4 th))
def bX1_slant_15 (nW : Nat) (nH : Nat) (dk : Nat → Int32) (Post : Int32 → (Int32) → Prop) (r15 : Int32 → Int32 → Int32 → (Int32) → Prop) (x1 : Int32) (x2 : Int32) (x3 : Int32) (th : Int32) : Prop :=
  ((7 ≤ x3 → Post x1 th) ∧ (¬ 7 ≤ x3 → wX1_columns nW nH dk (-x3) (fun r_2 => ((x2 ≤ r_2 → jX1_slant_41 nW nH dk Post r15 x2 x3 r_2 x1 th) ∧ (¬ x2 ≤ r_2 → jX1_slant_41 nW nH dk Post r15 x2 x3 r_2 (-x3) th)))))
def lX1_slant_15 (nW : Nat) (nH : Nat) (dk : Nat → Int32) (Post : Int32 → (Int32) → Prop) : Nat → Int32 → Int32 → Int32 → (Int32) → Prop
  | 0, _, _, _, _ => False
  | n + 1, x1, x2, x3, th => bX1_slant_15 nW nH dk Post (lX1_slant_15 nW nH dk Post n) x1 x2 x3 th
def wX1_slant (nW : Nat) (nH : Nat) (dk : Nat → Int32) (th : Int32) (Post : Int32 → (Int32) → Prop) : Prop :=
  wX1_columns nW nH dk 0 (fun r_1 => ∃ n : Nat, lX1_slant_15 nW nH dk Post n 0 r_1 1 0)
def bX1_plain_222 (nW : Nat) (nH : Nat) (dk : Nat → Int32) (a1 : Int32) (Post : Int32 → (Int32) → (Int32) → (Nat → Int64) → (Nat → Int64) → (Nat → Int64) → (Nat → Int32) → Prop) (r78 : Int32 → Int32 → Int32 → (Int32) → (Int32) → (Nat → Int64) → (Nat → Int64) → (Nat → Int64) → (Nat → Int32) → Prop) (r222 : Int32 → Int32 → Int32 → Int32 → (Int32) → (Int32) → (Nat → Int64) → (Nat → Int64) → (Nat → Int64) → (Nat → Int32) → Prop) (x2 : Int32) (x3 : Int32) (x4 : Int32) (x5 : Int32) (th : Int32) (wd : Int32) (ct : Nat → Int64) (bf : Nat → Int64) (sg : Nat → Int64) (my : Nat → Int32) : Prop :=
  ((x3 < x5 → r78 x2 x3 (x4 + 1) th wd ct bf sg my) ∧ (¬ x3 < x5 → ((x5 = x3 → (((a1 - 1) ≤ x4 → pIn x5 61 (fun j_12 => pIn x5 61 (fun j_13 => r222 x2 x3 x4 (x5 + 1) th wd ct (vp_updL bf j_13 (ct j_12)) sg my))) ∧ (¬ (a1 - 1) ≤ x4 → pIn x5 61 (fun j_14 => r222 x2 x3 x4 (x5 + 1) th wd ct (vp_updL bf j_14 0) sg my)))) ∧ (¬ x5 = x3 → pIn x5 61 (fun j_10 => pIn x5 61 (fun j_11 => r222 x2 x3 x4 (x5 + 1) th wd ct (vp_updL bf j_11 (ct j_10)) sg my))))))
def lX1_plain_222 (nW : Nat) (nH : Nat) (dk : Nat → Int32) (a1 : Int32) (Post : Int32 → (Int32) → (Int32) → (Nat → Int64) → (Nat → Int64) → (Nat → Int64) → (Nat → Int32) → Prop) (r78 : Int32 → Int32 → Int32 → (Int32) → (Int32) → (Nat → Int64) → (Nat → Int64) → (Nat → Int64) → (Nat → Int32) → Prop) : Nat → Int32 → Int32 → Int32 → Int32 → (Int32) → (Int32) → (Nat → Int64) → (Nat → Int64) → (Nat → Int64) → (Nat → Int32) → Prop
  | 0, _, _, _, _, _, _, _, _, _, _ => False
  | n + 1, x2, x3, x4, x5, th, wd, ct, bf, sg, my => bX1_plain_222 nW nH dk a1 Post r78 (lX1_plain_222 nW nH dk a1 Post r78 n) x2 x3 x4 x5 th wd ct bf sg my
def bX1_plain_104 (nW : Nat) (nH : Nat) (dk : Nat → Int32) (a1 : Int32) (Post : Int32 → (Int32) → (Int32) → (Nat → Int64) → (Nat → Int64) → (Nat → Int64) → (Nat → Int32) → Prop) (r78 : Int32 → Int32 → Int32 → (Int32) → (Int32) → (Nat → Int64) → (Nat → Int64) → (Nat → Int64) → (Nat → Int32) → Prop) (r87 : Int32 → Int32 → Int32 → Int32 → (Int32) → (Int32) → (Nat → Int64) → (Nat → Int64) → (Nat → Int64) → (Nat → Int32) → Prop) (r104 : Int32 → Int32 → Int32 → Int32 → Int32 → (Int32) → (Int32) → (Nat → Int64) → (Nat → Int64) → (Nat → Int64) → (Nat → Int32) → Prop) (x2 : Int32) (x3 : Int32) (x4 : Int32) (x5 : Int32) (x6 : Int32) (th : Int32) (wd : Int32) (ct : Nat → Int64) (bf : Nat → Int64) (sg : Nat → Int64) (my : Nat → Int32) : Prop :=
  ((x5 ≤ x6 → pIn x5 61 (fun j_17 => (((lg_cmp (ct j_17) 1000000000) ≤ 0 → pIn x5 61 (fun j_18 => pIn x5 61 (fun j_19 => r87 x2 x3 x4 (x5 + 1) th wd (vp_updL ct j_19 (ct j_18)) bf sg my))) ∧ (¬ (lg_cmp (ct j_17) 1000000000) ≤ 0 → pIn x5 61 (fun j_20 => r87 x2 x3 x4 (x5 + 1) th wd (vp_updL ct j_20 1000000000) bf sg my))))) ∧ (¬ x5 ≤ x6 → pIn x6 61 (fun j_21 => (((lg_cmp (bf j_21) 0) ≤ 0 → pIn x5 61 (fun j_22 => pIn x5 61 (fun j_23 => r104 x2 x3 x4 x5 (x6 + 1) th wd (vp_updL ct j_23 (ct j_22)) bf sg my))) ∧ (¬ (lg_cmp (bf j_21) 0) ≤ 0 → pIn ((61 * x6) + x5) 3721 (fun j_24 => (((lg_cmp (sg j_24) 0) < 0 → pIn x5 61 (fun j_25 => pIn x5 61 (fun j_26 => r104 x2 x3 x4 x5 (x6 + 1) th wd (vp_updL ct j_26 (ct j_25)) bf sg my))) ∧ (¬ (lg_cmp (sg j_24) 0) < 0 → pIn x5 61 (fun j_27 => pIn x6 61 (fun j_28 => pIn x5 61 (fun j_29 => r104 x2 x3 x4 x5 (x6 + 1) th wd (vp_updL ct j_29 ((ct j_27) + (bf j_28))) bf sg my)))))))))))
def lX1_plain_104 (nW : Nat) (nH : Nat) (dk : Nat → Int32) (a1 : Int32) (Post : Int32 → (Int32) → (Int32) → (Nat → Int64) → (Nat → Int64) → (Nat → Int64) → (Nat → Int32) → Prop) (r78 : Int32 → Int32 → Int32 → (Int32) → (Int32) → (Nat → Int64) → (Nat → Int64) → (Nat → Int64) → (Nat → Int32) → Prop) (r87 : Int32 → Int32 → Int32 → Int32 → (Int32) → (Int32) → (Nat → Int64) → (Nat → Int64) → (Nat → Int64) → (Nat → Int32) → Prop) : Nat → Int32 → Int32 → Int32 → Int32 → Int32 → (Int32) → (Int32) → (Nat → Int64) → (Nat → Int64) → (Nat → Int64) → (Nat → Int32) → Prop
  | 0, _, _, _, _, _, _, _, _, _, _, _ => False
  | n + 1, x2, x3, x4, x5, x6, th, wd, ct, bf, sg, my => bX1_plain_104 nW nH dk a1 Post r78 r87 (lX1_plain_104 nW nH dk a1 Post r78 r87 n) x2 x3 x4 x5 x6 th wd ct bf sg my
def bX1_plain_87 (nW : Nat) (nH : Nat) (dk : Nat → Int32) (a1 : Int32) (Post : Int32 → (Int32) → (Int32) → (Nat → Int64) → (Nat → Int64) → (Nat → Int64) → (Nat → Int32) → Prop) (r78 : Int32 → Int32 → Int32 → (Int32) → (Int32) → (Nat → Int64) → (Nat → Int64) → (Nat → Int64) → (Nat → Int32) → Prop) (r87 : Int32 → Int32 → Int32 → Int32 → (Int32) → (Int32) → (Nat → Int64) → (Nat → Int64) → (Nat → Int64) → (Nat → Int32) → Prop) (x2 : Int32) (x3 : Int32) (x4 : Int32) (x5 : Int32) (th : Int32) (wd : Int32) (ct : Nat → Int64) (bf : Nat → Int64) (sg : Nat → Int64) (my : Nat → Int32) : Prop :=
  ((x3 < x5 → ∃ n : Nat, lX1_plain_222 nW nH dk a1 Post r78 n x2 x3 x4 x2 th wd ct bf sg my) ∧ (¬ x3 < x5 → pIn x5 61 (fun j_16 => ∃ n : Nat, lX1_plain_104 nW nH dk a1 Post r78 r87 n x2 x3 x4 x5 x2 th wd (vp_updL ct j_16 0) bf sg my)))
def lX1_plain_87 (nW : Nat) (nH : Nat) (dk : Nat → Int32) (a1 : Int32) (Post : Int32 → (Int32) → (Int32) → (Nat → Int64) → (Nat → Int64) → (Nat → Int64) → (Nat → Int32) → Prop) (r78 : Int32 → Int32 → Int32 → (Int32) → (Int32) → (Nat → Int64) → (Nat → Int64) → (Nat → Int64) → (Nat → Int32) → Prop) : Nat → Int32 → Int32 → Int32 → Int32 → (Int32) → (Int32) → (Nat → Int64) → (Nat → Int64) → (Nat → Int64) → (Nat → Int32) → Prop
  | 0, _, _, _, _, _, _, _, _, _, _ => False
  | n + 1, x2, x3, x4, x5, th, wd, ct, bf, sg, my => bX1_plain_87 nW nH dk a1 Post r78 (lX1_plain_87 nW nH dk a1 Post r78 n) x2 x3 x4 x5 th wd ct bf sg my
def bX1_plain_78 (nW : Nat) (nH : Nat) (dk : Nat → Int32) (a1 : Int32) (Post : Int32 → (Int32) → (Int32) → (Nat → Int64) → (Nat → Int64) → (Nat → Int64) → (Nat → Int32) → Prop) (r78 : Int32 → Int32 → Int32 → (Int32) → (Int32) → (Nat → Int64) → (Nat → Int64) → (Nat → Int64) → (Nat → Int32) → Prop) (x2 : Int32) (x3 : Int32) (x4 : Int32) (th : Int32) (wd : Int32) (ct : Nat → Int64) (bf : Nat → Int64) (sg : Nat → Int64) (my : Nat → Int32) : Prop :=
  ((a1 ≤ x4 → pIn x3 61 (fun j_9 => Post (Int64.toInt32 (bf j_9)) th wd ct bf sg my)) ∧ (¬ a1 ≤ x4 → ∃ n : Nat, lX1_plain_87 nW nH dk a1 Post r78 n x2 x3 x4 x2 th wd ct bf sg my))
def lX1_plain_78 (nW : Nat) (nH : Nat) (dk : Nat → Int32) (a1 : Int32) (Post : Int32 → (Int32) → (Int32) → (Nat → Int64) → (Nat → Int64) → (Nat → Int64) → (Nat → Int32) → Prop) : Nat → Int32 → Int32 → Int32 → (Int32) → (Int32) → (Nat → Int64) → (Nat → Int64) → (Nat → Int64) → (Nat → Int32) → Prop
  | 0, _, _, _, _, _, _, _, _, _ => False
  | n + 1, x2, x3, x4, th, wd, ct, bf, sg, my => bX1_plain_78 nW nH dk a1 Post (lX1_plain_78 nW nH dk a1 Post n) x2 x3 x4 th wd ct bf sg my
def bX1_plain_44 (nW : Nat) (nH : Nat) (dk : Nat → Int32) (a1 : Int32) (Post : Int32 → (Int32) → (Int32) → (Nat → Int64) → (Nat → Int64) → (Nat → Int64) → (Nat → Int32) → Prop) (r44 : Int32 → Int32 → Int32 → (Int32) → (Int32) → (Nat → Int64) → (Nat → Int64) → (Nat → Int64) → (Nat → Int32) → Prop) (x2 : Int32) (x3 : Int32) (x4 : Int32) (th : Int32) (wd : Int32) (ct : Nat → Int64) (bf : Nat → Int64) (sg : Nat → Int64) (my : Nat → Int32) : Prop :=
  ((61 ≤ x4 → ∃ n : Nat, lX1_plain_78 nW nH dk a1 Post n x2 x3 0 th wd ct bf sg my) ∧ (¬ 61 ≤ x4 → ((x4 = x2 → pIn x4 61 (fun j_34 => r44 x2 x3 (x4 + 1) th wd ct (vp_updL bf j_34 1) sg my)) ∧ (¬ x4 = x2 → pIn x4 61 (fun j_33 => r44 x2 x3 (x4 + 1) th wd ct (vp_updL bf j_33 0) sg my)))))
def lX1_plain_44 (nW : Nat) (nH : Nat) (dk : Nat → Int32) (a1 : Int32) (Post : Int32 → (Int32) → (Int32) → (Nat → Int64) → (Nat → Int64) → (Nat → Int64) → (Nat → Int32) → Prop) : Nat → Int32 → Int32 → Int32 → (Int32) → (Int32) → (Nat → Int64) → (Nat → Int64) → (Nat → Int64) → (Nat → Int32) → Prop
  | 0, _, _, _, _, _, _, _, _, _ => False
  | n + 1, x2, x3, x4, th, wd, ct, bf, sg, my => bX1_plain_44 nW nH dk a1 Post (lX1_plain_44 nW nH dk a1 Post n) x2 x3 x4 th wd ct bf sg my
def wX1_plain (nW : Nat) (nH : Nat) (dk : Nat → Int32) (th : Int32) (wd : Int32) (ct : Nat → Int64) (bf : Nat → Int64) (sg : Nat → Int64) (my : Nat → Int32) (a1 : Int32) (Post : Int32 → (Int32) → (Int32) → (Nat → Int64) → (Nat → Int64) → (Nat → Int64) → (Nat → Int32) → Prop) : Prop :=
  wX1_mostInRow nW nH dk (fun r_1 => ((r_1 = 0 → Post 0 0 wd ct bf sg my) ∧ (¬ r_1 = 0 → ((a1 < 1 → Post 0 0 wd ct bf sg my) ∧ (¬ a1 < 1 → ((a1 ≤ 60 → wX1_from nW nH dk (fun r_2 => wX1_until nW nH dk (fun r_3 => wX1_look nW nH dk wd sg my r_2 r_3 (fun wd_6 sg_7 my_8 => ∃ n : Nat, lX1_plain_44 nW nH dk a1 Post n r_2 r_3 0 0 wd_6 ct bf sg_7 my_8)))) ∧ (¬ a1 ≤ 60 → Post 0 0 wd ct bf sg my)))))))
end
section
/-! ===== PRINTED BY wip/gen/gen.py: the machine does what the predicates say ===== -/
set_option maxHeartbeats 4000000 in
set_option maxRecDepth 100000 in
theorem mJ13_bitCount_95d88 (l : Launch) {a0 : Int64} {Post : Int32 → Prop} (h : wJ13_bitCount_95d88 a0 Post) : Met l yJ13_bitCount_95d88 wsJ13_bitCount_95d88 ({ frames := 0, cells := 0, slots := 0, locals := 0 } : Room) (va_Pc [.long a0] (fun _ => True)) (vp_Si Post) 0 0 (fun _ => False) := by
  refine Met.ofW (cc := cJ13_bitCount_95d88) (maxL := 2) (ret := (some .int)) (by decide) rfl ?_
  intro p e s m args below meth c s₁ B hml hv
  obtain ⟨rfl, -⟩ := hv
  have hC : zC p s m [.long a0].toArray meth c cJ13_bitCount_95d88 wsJ13_bitCount_95d88 (some .int) 2 RJ13 := ⟨B.exec, B.bytes, B.returns, hml, findClass_of_methodNamed B.named, atoms_spec (ws := wsJ13_bitCount_95d88) B.pre, B.notSynchronized⟩
  have hC0 := hC
  obtain ⟨hx, hb, hr, hml, hown, hts, hlocks⟩ := hC
  have hl := lv_entry ([.long a0]) (n := 2) (Nat.le_of_ble_eq_true rfl)
  rw [lg_entry_eq]
  generalize (lg_sl ([.long a0]) ++ List.replicate (2 - (lg_sl ([.long a0])).length) Slot.unset).toArray = ls at hl ⊢
  have hl : lv_has ls 2 [(0, .long a0)] := hl
  unfold wJ13_bitCount_95d88 at h
  refine lv_lload_n hx hb dJ13_bitCount_95d88_0 rfl (lv_at hl 0 rfl) ?_
  refine lv_lload_n hx hb dJ13_bitCount_95d88_1 rfl (lv_at hl 0 rfl) ?_
  refine lv_iconst (v := 1) hx hb dJ13_bitCount_95d88_2 (by decide) ?_
  refine lv_lushr (v := (zUshr a0 1)) hx hb dJ13_bitCount_95d88_3 rfl ?_
  refine lv_ldc2 hx hb hown (hts (.constantLong RJ13 314 (6148914691236517205)) (by decide +kernel)) dJ13_bitCount_95d88_4 ?_
  refine lv_land hx hb dJ13_bitCount_95d88_7 ?_
  refine lv_lsub hx hb dJ13_bitCount_95d88_8 ?_
  refine lv_topl (fun x0_1 ex0_1 => ?_)
  have h := h x0_1 ex0_1
  refine lv_lstore_n (lv' := [(0, .long x0_1)]) hx hb dJ13_bitCount_95d88_9 rfl hl (by decide) rfl (fun ls hl => ?_)
  refine lv_lload_n hx hb dJ13_bitCount_95d88_10 rfl (lv_at hl 0 rfl) ?_
  refine lv_ldc2 hx hb hown (hts (.constantLong RJ13 316 (3689348814741910323)) (by decide +kernel)) dJ13_bitCount_95d88_11 ?_
  refine lv_land hx hb dJ13_bitCount_95d88_14 ?_
  refine lv_lload_n hx hb dJ13_bitCount_95d88_15 rfl (lv_at hl 0 rfl) ?_
  refine lv_iconst (v := 2) hx hb dJ13_bitCount_95d88_16 (by decide) ?_
  refine lv_lushr (v := (zUshr x0_1 2)) hx hb dJ13_bitCount_95d88_17 rfl ?_
  refine lv_ldc2 hx hb hown (hts (.constantLong RJ13 316 (3689348814741910323)) (by decide +kernel)) dJ13_bitCount_95d88_18 ?_
  refine lv_land hx hb dJ13_bitCount_95d88_21 ?_
  refine lv_ladd hx hb dJ13_bitCount_95d88_22 ?_
  refine lv_topl (fun x0_2 ex0_2 => ?_)
  have h := h x0_2 ex0_2
  refine lv_lstore_n (lv' := [(0, .long x0_2)]) hx hb dJ13_bitCount_95d88_23 rfl hl (by decide) rfl (fun ls hl => ?_)
  refine lv_lload_n hx hb dJ13_bitCount_95d88_24 rfl (lv_at hl 0 rfl) ?_
  refine lv_lload_n hx hb dJ13_bitCount_95d88_25 rfl (lv_at hl 0 rfl) ?_
  refine lv_iconst (v := 4) hx hb dJ13_bitCount_95d88_26 (by decide) ?_
  refine lv_lushr (v := (zUshr x0_2 4)) hx hb dJ13_bitCount_95d88_27 rfl ?_
  refine lv_ladd hx hb dJ13_bitCount_95d88_28 ?_
  refine lv_ldc2 hx hb hown (hts (.constantLong RJ13 318 (1085102592571150095)) (by decide +kernel)) dJ13_bitCount_95d88_29 ?_
  refine lv_land hx hb dJ13_bitCount_95d88_32 ?_
  refine lv_topl (fun x0_3 ex0_3 => ?_)
  have h := h x0_3 ex0_3
  refine lv_lstore_n (lv' := [(0, .long x0_3)]) hx hb dJ13_bitCount_95d88_33 rfl hl (by decide) rfl (fun ls hl => ?_)
  refine lv_lload_n hx hb dJ13_bitCount_95d88_34 rfl (lv_at hl 0 rfl) ?_
  refine lv_lload_n hx hb dJ13_bitCount_95d88_35 rfl (lv_at hl 0 rfl) ?_
  refine lv_bipush (v := 8) hx hb dJ13_bitCount_95d88_36 (by decide) ?_
  refine lv_lushr (v := (zUshr x0_3 8)) hx hb dJ13_bitCount_95d88_38 rfl ?_
  refine lv_ladd hx hb dJ13_bitCount_95d88_39 ?_
  refine lv_topl (fun x0_4 ex0_4 => ?_)
  have h := h x0_4 ex0_4
  refine lv_lstore_n (lv' := [(0, .long x0_4)]) hx hb dJ13_bitCount_95d88_40 rfl hl (by decide) rfl (fun ls hl => ?_)
  refine lv_lload_n hx hb dJ13_bitCount_95d88_41 rfl (lv_at hl 0 rfl) ?_
  refine lv_lload_n hx hb dJ13_bitCount_95d88_42 rfl (lv_at hl 0 rfl) ?_
  refine lv_bipush (v := 16) hx hb dJ13_bitCount_95d88_43 (by decide) ?_
  refine lv_lushr (v := (zUshr x0_4 16)) hx hb dJ13_bitCount_95d88_45 rfl ?_
  refine lv_ladd hx hb dJ13_bitCount_95d88_46 ?_
  refine lv_topl (fun x0_5 ex0_5 => ?_)
  have h := h x0_5 ex0_5
  refine lv_lstore_n (lv' := [(0, .long x0_5)]) hx hb dJ13_bitCount_95d88_47 rfl hl (by decide) rfl (fun ls hl => ?_)
  refine lv_lload_n hx hb dJ13_bitCount_95d88_48 rfl (lv_at hl 0 rfl) ?_
  refine lv_lload_n hx hb dJ13_bitCount_95d88_49 rfl (lv_at hl 0 rfl) ?_
  refine lv_bipush (v := 32) hx hb dJ13_bitCount_95d88_50 (by decide) ?_
  refine lv_lushr (v := (zUshr x0_5 32)) hx hb dJ13_bitCount_95d88_52 rfl ?_
  refine lv_ladd hx hb dJ13_bitCount_95d88_53 ?_
  refine lv_topl (fun x0_6 ex0_6 => ?_)
  have h := h x0_6 ex0_6
  refine lv_lstore_n (lv' := [(0, .long x0_6)]) hx hb dJ13_bitCount_95d88_54 rfl hl (by decide) rfl (fun ls hl => ?_)
  refine lv_lload_n hx hb dJ13_bitCount_95d88_55 rfl (lv_at hl 0 rfl) ?_
  refine lv_l2i (v := (Int64.toInt32 x0_6)) hx hb dJ13_bitCount_95d88_56 rfl ?_
  refine lv_bipush (v := 127) hx hb dJ13_bitCount_95d88_57 (by decide) ?_
  refine lv_iand hx hb dJ13_bitCount_95d88_59 ?_
  exact W.iret (v := ((Int64.toInt32 x0_6) &&& 127)) hx hb hr (fun t ht hW => ⟨_, rfl, h, ht⟩) (fun q hq => absurd hq List.not_mem_nil) dJ13_bitCount_95d88_60
set_option maxHeartbeats 4000000 in
set_option maxRecDepth 100000 in
theorem mJ9_floorDiv_7cf53 (l : Launch) {a0 : Int32} {a1 : Int32} {Post : Int32 → Prop} (h : wJ9_floorDiv_7cf53 a0 a1 Post) : Met l yJ9_floorDiv_7cf53 wsJ9_floorDiv_7cf53 ({ frames := 0, cells := 0, slots := 0, locals := 0 } : Room) (va_Pc [.int a0, .int a1] (fun _ => True)) (vp_Si Post) 0 0 (fun _ => False) := by
  refine z_ofWF (cc := cJ9_floorDiv_7cf53) (maxL := 3) (ret := (some .int)) z_plain_floorDiv rfl ?_
  intro p e s m args below meth c s₁ B hml hv
  obtain ⟨rfl, -⟩ := hv
  have hC : zC p s m [.int a0, .int a1].toArray meth c cJ9_floorDiv_7cf53 wsJ9_floorDiv_7cf53 (some .int) 3 RJ9 := ⟨B.exec, B.bytes, B.returns, hml, findClass_of_methodNamed B.named, atoms_spec (ws := wsJ9_floorDiv_7cf53) B.pre, B.notSynchronized⟩
  have hC0 := hC
  obtain ⟨hx, hb, hr, hml, hown, hts, hlocks⟩ := hC
  have hl := lv_entry ([.int a0, .int a1]) (n := 3) (Nat.le_of_ble_eq_true rfl)
  rw [lg_entry_eq]
  generalize (lg_sl ([.int a0, .int a1]) ++ List.replicate (3 - (lg_sl ([.int a0, .int a1])).length) Slot.unset).toArray = ls at hl ⊢
  have hl : lv_has ls 3 [(0, .int a0), (1, .int a1)] := hl
  unfold wJ9_floorDiv_7cf53 at h
  refine lv_iload_n hx hb dJ9_floorDiv_7cf53_0 rfl (lv_at hl 0 rfl) ?_
  refine lv_iload_n hx hb dJ9_floorDiv_7cf53_1 rfl (lv_at hl 1 rfl) ?_
  refine lv_idiv hx hb dJ9_floorDiv_7cf53_2 h.1 ?_
  have h := h.2
  refine lv_topi (fun x2_1 ex2_1 => ?_)
  have h := h x2_1 ex2_1
  refine lv_istore_n (lv' := [(2, .int x2_1), (0, .int a0), (1, .int a1)]) hx hb dJ9_floorDiv_7cf53_3 rfl hl (by decide) rfl (fun ls hl => ?_)
  refine lv_iload_n hx hb dJ9_floorDiv_7cf53_4 rfl (lv_at hl 1 rfl) ?_
  refine lv_iload_n hx hb dJ9_floorDiv_7cf53_5 rfl (lv_at hl 2 rfl) ?_
  refine lv_ixor hx hb dJ9_floorDiv_7cf53_6 ?_
  refine lv_if_ge (tgt := 21) hx hb dJ9_floorDiv_7cf53_7 (by decide) (fun c => ?_) (fun c => ?_)
  · have h := h.1 c
    refine lv_iload_n hx hb dJ9_floorDiv_7cf53_21 rfl (lv_at hl 0 rfl) ?_
    exact W.iret (v := x2_1) hx hb hr (fun t ht hW => ⟨_, rfl, h, ht⟩) (fun q hq => absurd hq List.not_mem_nil) dJ9_floorDiv_7cf53_22
  · have h := h.2 c
    refine lv_iload_n hx hb dJ9_floorDiv_7cf53_10 rfl (lv_at hl 0 rfl) ?_
    refine lv_iload_n hx hb dJ9_floorDiv_7cf53_11 rfl (lv_at hl 2 rfl) ?_
    refine lv_imul hx hb dJ9_floorDiv_7cf53_12 ?_
    refine lv_iload_n hx hb dJ9_floorDiv_7cf53_13 rfl (lv_at hl 1 rfl) ?_
    refine lv_icmp_eq (tgt := 21) hx hb dJ9_floorDiv_7cf53_14 (by decide) (fun c => ?_) (fun c => ?_)
    · have h := h.1 c
      refine lv_iload_n hx hb dJ9_floorDiv_7cf53_21 rfl (lv_at hl 0 rfl) ?_
      exact W.iret (v := x2_1) hx hb hr (fun t ht hW => ⟨_, rfl, h, ht⟩) (fun q hq => absurd hq List.not_mem_nil) dJ9_floorDiv_7cf53_22
    · have h := h.2 c
      refine lv_iload_n hx hb dJ9_floorDiv_7cf53_17 rfl (lv_at hl 0 rfl) ?_
      refine lv_iconst (v := 1) hx hb dJ9_floorDiv_7cf53_18 (by decide) ?_
      refine lv_isub hx hb dJ9_floorDiv_7cf53_19 ?_
      exact W.iret (v := (x2_1 - 1)) hx hb hr (fun t ht hW => ⟨_, rfl, h, ht⟩) (fun q hq => absurd hq List.not_mem_nil) dJ9_floorDiv_7cf53_20
end
section
/-! ===== PRINTED BY wip/gen/gen.py: the machine does what the predicates say ===== -/
set_option maxHeartbeats 4000000 in
set_option maxRecDepth 100000 in
theorem mX0_has (l : Launch) {a0 : Int64} {a2 : Int32} {Post : Int32 → Prop} (h : wX0_has a0 a2 Post) : Met l yX0_has wsX0_has ({ frames := 0, cells := 0, slots := 0, locals := 0 } : Room) (va_Pc [.long a0, .int a2] (fun _ => True)) (vp_Si Post) 0 0 (fun _ => False) := by
  refine Met.ofW (cc := cX0_has) (maxL := 3) (ret := (some .boolean)) (by decide) rfl ?_
  intro p e s m args below meth c s₁ B hml hv
  obtain ⟨rfl, -⟩ := hv
  have hC : zC p s m [.long a0, .int a2].toArray meth c cX0_has wsX0_has (some .boolean) 3 RX0 := ⟨B.exec, B.bytes, B.returns, hml, findClass_of_methodNamed B.named, atoms_spec (ws := wsX0_has) B.pre, B.notSynchronized⟩
  have hC0 := hC
  obtain ⟨hx, hb, hr, hml, hown, hts, hlocks⟩ := hC
  have hl := lv_entry ([.long a0, .int a2]) (n := 3) (Nat.le_of_ble_eq_true rfl)
  rw [lg_entry_eq]
  generalize (lg_sl ([.long a0, .int a2]) ++ List.replicate (3 - (lg_sl ([.long a0, .int a2])).length) Slot.unset).toArray = ls at hl ⊢
  have hl : lv_has ls 3 [(0, .long a0), (2, .int a2)] := hl
  unfold wX0_has at h
  refine lv_lload_n hx hb dX0_has_0 rfl (lv_at hl 0 rfl) ?_
  refine lv_iload_n hx hb dX0_has_1 rfl (lv_at hl 1 rfl) ?_
  refine lv_lushr (v := (zUshr a0 a2)) hx hb dX0_has_2 rfl ?_
  refine lv_lconst (v := 1) hx hb dX0_has_3 (by decide) ?_
  refine lv_land hx hb dX0_has_4 ?_
  refine lv_lconst (v := 0) hx hb dX0_has_5 (by decide) ?_
  refine W.lcmp hx hb dX0_has_6 ?_
  refine lv_if_eq (tgt := 14) hx hb dX0_has_7 (by decide) (fun c => ?_) (fun c => ?_)
  · have h := h.1 c
    refine lv_iconst (v := 0) hx hb dX0_has_14 (by decide) ?_
    exact W.zret (v := 0) hx hb hr rfl (fun t ht hW => ⟨_, rfl, h, ht⟩) (fun q hq => absurd hq List.not_mem_nil) dX0_has_15
  · have h := h.2 c
    refine lv_iconst (v := 1) hx hb dX0_has_10 (by decide) ?_
    refine lv_goto (tgt := 15) hx hb dX0_has_11 (by decide) ?_
    exact W.zret (v := 1) hx hb hr rfl (fun t ht hW => ⟨_, rfl, h, ht⟩) (fun q hq => absurd hq List.not_mem_nil) dX0_has_15
set_option maxHeartbeats 4000000 in
set_option maxRecDepth 100000 in
theorem mX0_shelf (l : Launch) {a0 : Int32} {Post : Int32 → Prop} (h : wX0_shelf a0 Post) : Met l yX0_shelf wsX0_shelf ({ frames := 0, cells := 0, slots := 0, locals := 0 } : Room) (va_Pc [.int a0] (fun _ => True)) (vp_Si Post) 0 0 (fun _ => False) := by
  refine Met.ofW (cc := cX0_shelf) (maxL := 1) (ret := (some .int)) (by decide) rfl ?_
  intro p e s m args below meth c s₁ B hml hv
  obtain ⟨rfl, -⟩ := hv
  have hC : zC p s m [.int a0].toArray meth c cX0_shelf wsX0_shelf (some .int) 1 RX0 := ⟨B.exec, B.bytes, B.returns, hml, findClass_of_methodNamed B.named, atoms_spec (ws := wsX0_shelf) B.pre, B.notSynchronized⟩
  have hC0 := hC
  obtain ⟨hx, hb, hr, hml, hown, hts, hlocks⟩ := hC
  have hl := lv_entry ([.int a0]) (n := 1) (Nat.le_of_ble_eq_true rfl)
  rw [lg_entry_eq]
  generalize (lg_sl ([.int a0]) ++ List.replicate (1 - (lg_sl ([.int a0])).length) Slot.unset).toArray = ls at hl ⊢
  have hl : lv_has ls 1 [(0, .int a0)] := hl
  unfold wX0_shelf at h
  refine lv_iload_n hx hb dX0_shelf_0 rfl (lv_at hl 0 rfl) ?_
  refine lv_bipush (v := 40) hx hb dX0_shelf_1 (by decide) ?_
  refine lv_imul hx hb dX0_shelf_3 ?_
  exact W.iret (v := (a0 * 40)) hx hb hr (fun t ht hW => ⟨_, rfl, h, ht⟩) (fun q hq => absurd hq List.not_mem_nil) dX0_shelf_4
set_option maxHeartbeats 4000000 in
set_option maxRecDepth 100000 in
theorem tX0_signCost_18 {p : Program} {l : Launch} {e : Env} {s : State} {m : MethodId} {args : Array Value} {below : List Frame} {meth : Method} {c : Code} {a0 : Int32} {a1 : Int32} {a2 : Int32} {a3 : Int32} {Post : Int32 → Prop} (hC : zC p s m args meth c cX0_signCost wsX0_signCost (some .int) 6 RX0) : ∀ (x4 : Int32) (s0 : Int32) (ls : Array Slot), lv_has ls 6 [(0, .int a0), (1, .int a1), (2, .int a2), (3, .int a3), (4, .int x4)] → jX0_signCost_18 a0 a1 a2 a3 Post x4 s0 → W p l e ({ frames := 0, cells := 0, slots := 0, locals := 0 } : Room) s m args below meth c s.heap [] 0 0 (MQ below (vp_Si Post) args s 0 0 (fun _ => False)) (F0 m 18 ls [.int s0]) := by
  have hC0 := hC
  obtain ⟨hx, hb, hr, hml, hown, hts, hlocks⟩ := hC
  intro x4 s0 ls hl h
  unfold jX0_signCost_18 at h
  refine lv_istore (lv' := [(5, .int s0), (0, .int a0), (1, .int a1), (2, .int a2), (3, .int a3), (4, .int x4)]) hx hb dX0_signCost_18 hl (by decide) rfl (fun ls hl => ?_)
  refine lv_iload hx hb dX0_signCost_20 (lv_at hl 5 rfl) ?_
  refine lv_iload hx hb dX0_signCost_22 (lv_at hl 5 rfl) ?_
  refine lv_imul hx hb dX0_signCost_24 ?_
  refine lv_iconst (v := 5) hx hb dX0_signCost_25 (by decide) ?_
  refine lv_iload_n hx hb dX0_signCost_26 rfl (lv_at hl 2 rfl) ?_
  refine lv_imul hx hb dX0_signCost_27 ?_
  refine lv_iadd hx hb dX0_signCost_28 ?_
  refine lv_iload hx hb dX0_signCost_29 (lv_at hl 0 rfl) ?_
  refine lv_iadd hx hb dX0_signCost_31 ?_
  exact W.iret (v := (((x4 * x4) + (5 * a1)) + s0)) hx hb hr (fun t ht hW => ⟨_, rfl, h, ht⟩) (fun q hq => absurd hq List.not_mem_nil) dX0_signCost_32
set_option maxHeartbeats 4000000 in
set_option maxRecDepth 100000 in
theorem mX0_signCost (l : Launch) {a0 : Int32} {a1 : Int32} {a2 : Int32} {a3 : Int32} {Post : Int32 → Prop} (h : wX0_signCost a0 a1 a2 a3 Post) : Met l yX0_signCost wsX0_signCost ({ frames := 0, cells := 0, slots := 0, locals := 0 } : Room) (va_Pc [.int a0, .int a1, .int a2, .int a3] (fun _ => True)) (vp_Si Post) 0 0 (fun _ => False) := by
  refine Met.ofW (cc := cX0_signCost) (maxL := 6) (ret := (some .int)) (by decide) rfl ?_
  intro p e s m args below meth c s₁ B hml hv
  obtain ⟨rfl, -⟩ := hv
  have hC : zC p s m [.int a0, .int a1, .int a2, .int a3].toArray meth c cX0_signCost wsX0_signCost (some .int) 6 RX0 := ⟨B.exec, B.bytes, B.returns, hml, findClass_of_methodNamed B.named, atoms_spec (ws := wsX0_signCost) B.pre, B.notSynchronized⟩
  have hC0 := hC
  obtain ⟨hx, hb, hr, hml, hown, hts, hlocks⟩ := hC
  have hl := lv_entry ([.int a0, .int a1, .int a2, .int a3]) (n := 6) (Nat.le_of_ble_eq_true rfl)
  rw [lg_entry_eq]
  generalize (lg_sl ([.int a0, .int a1, .int a2, .int a3]) ++ List.replicate (6 - (lg_sl ([.int a0, .int a1, .int a2, .int a3])).length) Slot.unset).toArray = ls at hl ⊢
  have hl : lv_has ls 6 [(0, .int a0), (1, .int a1), (2, .int a2), (3, .int a3)] := hl
  unfold wX0_signCost at h
  refine lv_iload_n hx hb dX0_signCost_0 rfl (lv_at hl 0 rfl) ?_
  refine lv_iload_n hx hb dX0_signCost_1 rfl (lv_at hl 3 rfl) ?_
  refine lv_isub hx hb dX0_signCost_2 ?_
  refine lv_topi (fun x4_1 ex4_1 => ?_)
  have h := h x4_1 ex4_1
  refine lv_istore (lv' := [(4, .int x4_1), (0, .int a0), (1, .int a1), (2, .int a2), (3, .int a3)]) hx hb dX0_signCost_3 hl (by decide) rfl (fun ls hl => ?_)
  refine lv_iload_n hx hb dX0_signCost_5 rfl (lv_at hl 3 rfl) ?_
  refine lv_if_ne (tgt := 13) hx hb dX0_signCost_6 (by decide) (fun c => ?_) (fun c => ?_)
  · have h := h.2 c
    refine lv_iconst (v := 2) hx hb dX0_signCost_13 (by decide) ?_
    refine lv_iload_n hx hb dX0_signCost_14 rfl (lv_at hl 3 rfl) ?_
    refine lv_iconst (v := 1) hx hb dX0_signCost_15 (by decide) ?_
    refine lv_isub hx hb dX0_signCost_16 ?_
    refine lv_imul hx hb dX0_signCost_17 ?_
    exact tX0_signCost_18 hC0 _ _ ls (lv_sub hl [1, 2, 3, 4, 0] rfl) h
  · have h := h.1 c
    refine lv_iconst (v := 0) hx hb dX0_signCost_9 (by decide) ?_
    refine lv_goto (tgt := 18) hx hb dX0_signCost_10 (by decide) ?_
    exact tX0_signCost_18 hC0 _ _ ls (lv_sub hl [1, 2, 3, 4, 0] rfl) h
theorem in_X0_firstDarkColumn : ∀ w ∈ wsX00, w ∈ wsX0_firstDarkColumn := by decide +kernel
set_option maxHeartbeats 4000000 in
set_option maxRecDepth 100000 in
theorem tX0_firstDarkColumn_2 {p : Program} {l : Launch} {e : Env} {s : State} {m : MethodId} {args : Array Value} {below : List Frame} {meth : Method} {c : Code} {dC : Nat → ClassId} {dI : Nat → Nat → Nat} {ad : Nat → Nat} {cA : Nat → ClassId} {nW : Nat} {nH : Nat} {ff : Int32} {fd : Int32} {cols : Nat → Int64} {rows : Nat → Int64} {ends : Nat → Int64} {ecost : Nat → Int32} {ecnt : Nat → Int32} {tails : Nat → Int32} {longer : Nat → Int32} {Post : Int32 → Prop} (hC : zC p s m args meth c cX0_firstDarkColumn wsX0_firstDarkColumn (some .int) 2 RX0) (hK : va_K (dC, dI) vwCl (tX0 cA) s) (hP : va_P (dC, dI) vwCl (wX0 ad cA nW nH ff fd cols rows ends ecost ecnt tails longer) s.heap) : ∀ (n : Nat), ∀ (x1 : Int32) (ls : Array Slot), lv_has ls 2 [(0, .ref (ad 0)), (1, .int x1)] → lX0_firstDarkColumn_2 nW cols Post n x1 → W p l e ({ frames := 0, cells := 0, slots := 0, locals := 0 } : Room) s m args below meth c s.heap [] 0 0 (MQ below (vp_Si Post) args s 0 0 (fun _ => False)) (F0 m 2 ls []) := by
  have hC0 := hC
  obtain ⟨hx, hb, hr, hml, hown, hts, hlocks⟩ := hC
  intro n
  induction n with
  | zero =>
    intro x1 ls hl h
    exact h.elim
  | succ n hr2 =>
    intro x1 ls hl h
    have h : bX0_firstDarkColumn_2 nW cols Post (lX0_firstDarkColumn_2 nW cols Post n) x1 := h
    unfold bX0_firstDarkColumn_2 at h
    refine lv_iload_n hx hb dX0_firstDarkColumn_2 rfl (lv_at hl 1 rfl) ?_
    refine lv_aload_n hx hb dX0_firstDarkColumn_3 rfl (lv_at hl 0 rfl) ?_
    refine va_get (D := (dC, dI)) (ci := 1) (v := .int (nI nW)) (C := RX0) (T := TX0) (N := 11) hx hb hts in_X0_firstDarkColumn hown hK hP 0 rfl rfl 0 (by decide) (hts (.fieldLink RX0 18 "SignCutter" "width" "I") (by decide +kernel)) (fun _ h9 => h9) rfl dX0_firstDarkColumn_4 ?_
    refine lv_icmp_ge (tgt := 29) hx hb dX0_firstDarkColumn_7 (by decide) (fun c => ?_) (fun c => ?_)
    · have h := h.1 c
      refine lv_iconst (v := (-1)) hx hb dX0_firstDarkColumn_29 (by decide) ?_
      exact W.iret (v := (-1)) hx hb hr (fun t ht hW => ⟨_, rfl, h, ht⟩) (fun q hq => absurd hq List.not_mem_nil) dX0_firstDarkColumn_30
    · have h := h.2 c
      refine lv_aload_n hx hb dX0_firstDarkColumn_10 rfl (lv_at hl 0 rfl) ?_
      refine va_get (D := (dC, dI)) (ci := 1) (v := .ref (ad 1)) (C := RX0) (T := TX0) (N := 11) hx hb hts in_X0_firstDarkColumn hown hK hP 0 rfl rfl 2 (by decide) (hts (.fieldLink RX0 25 "SignCutter" "columns" "[J") (by decide +kernel)) (fun _ h9 => h9) rfl dX0_firstDarkColumn_11 ?_
      refine lv_iload_n hx hb dX0_firstDarkColumn_14 rfl (lv_at hl 1 rfl) ?_
      refine z_lald hx hb hK hP 1 0 rfl rfl h dX0_firstDarkColumn_15 (fun j_1 h => ?_)
      refine lv_lconst (v := 0) hx hb dX0_firstDarkColumn_16 (by decide) ?_
      refine W.lcmp hx hb dX0_firstDarkColumn_17 ?_
      refine lv_if_eq (tgt := 23) hx hb dX0_firstDarkColumn_18 (by decide) (fun c => ?_) (fun c => ?_)
      · have h := h.1 c
        refine lv_iinc (v := (x1 + 1)) (lv' := [(1, .int (x1 + 1)), (0, .ref (ad 0))]) hx hb dX0_firstDarkColumn_23 hl (k := 1) rfl rfl (by decide) rfl (fun ls hl => ?_)
        refine lv_goto (tgt := 2) hx hb dX0_firstDarkColumn_26 (by decide) ?_
        exact hr2 _ ls (lv_sub hl [1, 0] rfl) h
      · have h := h.2 c
        refine lv_iload_n hx hb dX0_firstDarkColumn_21 rfl (lv_at hl 1 rfl) ?_
        exact W.iret (v := x1) hx hb hr (fun t ht hW => ⟨_, rfl, h, ht⟩) (fun q hq => absurd hq List.not_mem_nil) dX0_firstDarkColumn_22
set_option maxHeartbeats 4000000 in
set_option maxRecDepth 100000 in
theorem mX0_firstDarkColumn (l : Launch) {dC : Nat → ClassId} {dI : Nat → Nat → Nat} {ad : Nat → Nat} {cA : Nat → ClassId} {nW : Nat} {nH : Nat} {ff : Int32} {fd : Int32} {cols : Nat → Int64} {rows : Nat → Int64} {ends : Nat → Int64} {ecost : Nat → Int32} {ecnt : Nat → Int32} {tails : Nat → Int32} {longer : Nat → Int32} {Post : Int32 → Prop} (h : wX0_firstDarkColumn nW cols Post) : Met l yX0_firstDarkColumn wsX0_firstDarkColumn ({ frames := 0, cells := 0, slots := 0, locals := 0 } : Room) (zPc (dC, dI) vwCl (tX0 cA) (wX0 ad cA nW nH ff fd cols rows ends ecost ecnt tails longer) [.ref (ad 0)]) (vp_Si Post) 0 0 (fun _ => False) := by
  refine Met.ofW (cc := cX0_firstDarkColumn) (maxL := 2) (ret := (some .int)) (by decide) rfl ?_
  intro p e s m args below meth c s₁ B hml hv
  obtain ⟨rfl, hP, hK⟩ := hv
  have hC : zC p s m [.ref (ad 0)].toArray meth c cX0_firstDarkColumn wsX0_firstDarkColumn (some .int) 2 RX0 := ⟨B.exec, B.bytes, B.returns, hml, findClass_of_methodNamed B.named, atoms_spec (ws := wsX0_firstDarkColumn) B.pre, B.notSynchronized⟩
  have hC0 := hC
  obtain ⟨hx, hb, hr, hml, hown, hts, hlocks⟩ := hC
  have hl := lv_entry ([.ref (ad 0)]) (n := 2) (Nat.le_of_ble_eq_true rfl)
  rw [lg_entry_eq]
  generalize (lg_sl ([.ref (ad 0)]) ++ List.replicate (2 - (lg_sl ([.ref (ad 0)])).length) Slot.unset).toArray = ls at hl ⊢
  have hl : lv_has ls 2 [(0, .ref (ad 0))] := hl
  unfold wX0_firstDarkColumn at h
  refine lv_iconst (v := 0) hx hb dX0_firstDarkColumn_0 (by decide) ?_
  refine lv_istore_n (lv' := [(1, .int 0), (0, .ref (ad 0))]) hx hb dX0_firstDarkColumn_1 rfl hl (by decide) rfl (fun ls hl => ?_)
  obtain ⟨n_2, h⟩ := h
  exact tX0_firstDarkColumn_2 hC0 hK hP n_2 _ ls (lv_sub hl [1, 0] rfl) h
theorem in_X0_lastDarkColumn : ∀ w ∈ wsX00, w ∈ wsX0_lastDarkColumn := by decide +kernel
set_option maxHeartbeats 4000000 in
set_option maxRecDepth 100000 in
theorem tX0_lastDarkColumn_7 {p : Program} {l : Launch} {e : Env} {s : State} {m : MethodId} {args : Array Value} {below : List Frame} {meth : Method} {c : Code} {dC : Nat → ClassId} {dI : Nat → Nat → Nat} {ad : Nat → Nat} {cA : Nat → ClassId} {nW : Nat} {nH : Nat} {ff : Int32} {fd : Int32} {cols : Nat → Int64} {rows : Nat → Int64} {ends : Nat → Int64} {ecost : Nat → Int32} {ecnt : Nat → Int32} {tails : Nat → Int32} {longer : Nat → Int32} {Post : Int32 → Prop} (hC : zC p s m args meth c cX0_lastDarkColumn wsX0_lastDarkColumn (some .int) 2 RX0) (hK : va_K (dC, dI) vwCl (tX0 cA) s) (hP : va_P (dC, dI) vwCl (wX0 ad cA nW nH ff fd cols rows ends ecost ecnt tails longer) s.heap) : ∀ (n : Nat), ∀ (x1 : Int32) (ls : Array Slot), lv_has ls 2 [(0, .ref (ad 0)), (1, .int x1)] → lX0_lastDarkColumn_7 nW cols Post n x1 → W p l e ({ frames := 0, cells := 0, slots := 0, locals := 0 } : Room) s m args below meth c s.heap [] 0 0 (MQ below (vp_Si Post) args s 0 0 (fun _ => False)) (F0 m 7 ls []) := by
  have hC0 := hC
  obtain ⟨hx, hb, hr, hml, hown, hts, hlocks⟩ := hC
  intro n
  induction n with
  | zero =>
    intro x1 ls hl h
    exact h.elim
  | succ n hr7 =>
    intro x1 ls hl h
    have h : bX0_lastDarkColumn_7 nW cols Post (lX0_lastDarkColumn_7 nW cols Post n) x1 := h
    unfold bX0_lastDarkColumn_7 at h
    refine lv_iload_n hx hb dX0_lastDarkColumn_7 rfl (lv_at hl 1 rfl) ?_
    refine lv_if_lt (tgt := 30) hx hb dX0_lastDarkColumn_8 (by decide) (fun c => ?_) (fun c => ?_)
    · have h := h.1 c
      refine lv_iconst (v := (-1)) hx hb dX0_lastDarkColumn_30 (by decide) ?_
      exact W.iret (v := (-1)) hx hb hr (fun t ht hW => ⟨_, rfl, h, ht⟩) (fun q hq => absurd hq List.not_mem_nil) dX0_lastDarkColumn_31
    · have h := h.2 c
      refine lv_aload_n hx hb dX0_lastDarkColumn_11 rfl (lv_at hl 0 rfl) ?_
      refine va_get (D := (dC, dI)) (ci := 1) (v := .ref (ad 1)) (C := RX0) (T := TX0) (N := 11) hx hb hts in_X0_lastDarkColumn hown hK hP 0 rfl rfl 2 (by decide) (hts (.fieldLink RX0 25 "SignCutter" "columns" "[J") (by decide +kernel)) (fun _ h9 => h9) rfl dX0_lastDarkColumn_12 ?_
      refine lv_iload_n hx hb dX0_lastDarkColumn_15 rfl (lv_at hl 1 rfl) ?_
      refine z_lald hx hb hK hP 1 0 rfl rfl h dX0_lastDarkColumn_16 (fun j_2 h => ?_)
      refine lv_lconst (v := 0) hx hb dX0_lastDarkColumn_17 (by decide) ?_
      refine W.lcmp hx hb dX0_lastDarkColumn_18 ?_
      refine lv_if_eq (tgt := 24) hx hb dX0_lastDarkColumn_19 (by decide) (fun c => ?_) (fun c => ?_)
      · have h := h.1 c
        refine lv_iinc (v := (x1 + (-1))) (lv' := [(1, .int (x1 + (-1))), (0, .ref (ad 0))]) hx hb dX0_lastDarkColumn_24 hl (k := 1) rfl rfl (by decide) rfl (fun ls hl => ?_)
        refine lv_goto (tgt := 7) hx hb dX0_lastDarkColumn_27 (by decide) ?_
        exact hr7 _ ls (lv_sub hl [1, 0] rfl) h
      · have h := h.2 c
        refine lv_iload_n hx hb dX0_lastDarkColumn_22 rfl (lv_at hl 1 rfl) ?_
        exact W.iret (v := x1) hx hb hr (fun t ht hW => ⟨_, rfl, h, ht⟩) (fun q hq => absurd hq List.not_mem_nil) dX0_lastDarkColumn_23
set_option maxHeartbeats 4000000 in
set_option maxRecDepth 100000 in
theorem mX0_lastDarkColumn (l : Launch) {dC : Nat → ClassId} {dI : Nat → Nat → Nat} {ad : Nat → Nat} {cA : Nat → ClassId} {nW : Nat} {nH : Nat} {ff : Int32} {fd : Int32} {cols : Nat → Int64} {rows : Nat → Int64} {ends : Nat → Int64} {ecost : Nat → Int32} {ecnt : Nat → Int32} {tails : Nat → Int32} {longer : Nat → Int32} {Post : Int32 → Prop} (h : wX0_lastDarkColumn nW cols Post) : Met l yX0_lastDarkColumn wsX0_lastDarkColumn ({ frames := 0, cells := 0, slots := 0, locals := 0 } : Room) (zPc (dC, dI) vwCl (tX0 cA) (wX0 ad cA nW nH ff fd cols rows ends ecost ecnt tails longer) [.ref (ad 0)]) (vp_Si Post) 0 0 (fun _ => False) := by
  refine Met.ofW (cc := cX0_lastDarkColumn) (maxL := 2) (ret := (some .int)) (by decide) rfl ?_
  intro p e s m args below meth c s₁ B hml hv
  obtain ⟨rfl, hP, hK⟩ := hv
  have hC : zC p s m [.ref (ad 0)].toArray meth c cX0_lastDarkColumn wsX0_lastDarkColumn (some .int) 2 RX0 := ⟨B.exec, B.bytes, B.returns, hml, findClass_of_methodNamed B.named, atoms_spec (ws := wsX0_lastDarkColumn) B.pre, B.notSynchronized⟩
  have hC0 := hC
  obtain ⟨hx, hb, hr, hml, hown, hts, hlocks⟩ := hC
  have hl := lv_entry ([.ref (ad 0)]) (n := 2) (Nat.le_of_ble_eq_true rfl)
  rw [lg_entry_eq]
  generalize (lg_sl ([.ref (ad 0)]) ++ List.replicate (2 - (lg_sl ([.ref (ad 0)])).length) Slot.unset).toArray = ls at hl ⊢
  have hl : lv_has ls 2 [(0, .ref (ad 0))] := hl
  unfold wX0_lastDarkColumn at h
  refine lv_aload_n hx hb dX0_lastDarkColumn_0 rfl (lv_at hl 0 rfl) ?_
  refine va_get (D := (dC, dI)) (ci := 1) (v := .int (nI nW)) (C := RX0) (T := TX0) (N := 11) hx hb hts in_X0_lastDarkColumn hown hK hP 0 rfl rfl 0 (by decide) (hts (.fieldLink RX0 18 "SignCutter" "width" "I") (by decide +kernel)) (fun _ h9 => h9) rfl dX0_lastDarkColumn_1 ?_
  refine lv_iconst (v := 1) hx hb dX0_lastDarkColumn_4 (by decide) ?_
  refine lv_isub hx hb dX0_lastDarkColumn_5 ?_
  refine lv_topi (fun x1_1 ex1_1 => ?_)
  have h := h x1_1 ex1_1
  refine lv_istore_n (lv' := [(1, .int x1_1), (0, .ref (ad 0))]) hx hb dX0_lastDarkColumn_6 rfl hl (by decide) rfl (fun ls hl => ?_)
  obtain ⟨n_3, h⟩ := h
  exact tX0_lastDarkColumn_7 hC0 hK hP n_3 _ ls (lv_sub hl [1, 0] rfl) h
theorem in_X0_darkInRow : ∀ w ∈ wsX00, w ∈ wsX0_darkInRow := by decide +kernel
set_option maxHeartbeats 4000000 in
set_option maxRecDepth 100000 in
theorem mX0_darkInRow (l : Launch) {dC : Nat → ClassId} {dI : Nat → Nat → Nat} {ad : Nat → Nat} {cA : Nat → ClassId} {nW : Nat} {nH : Nat} {ff : Int32} {fd : Int32} {cols : Nat → Int64} {rows : Nat → Int64} {ends : Nat → Int64} {ecost : Nat → Int32} {ecnt : Nat → Int32} {tails : Nat → Int32} {longer : Nat → Int32} {a1 : Int32} {Post : Int32 → Prop} (h : wX0_darkInRow nH rows a1 Post) : Met l yX0_darkInRow wsX0_darkInRow ({ frames := 1, cells := 0, slots := 0, locals := 21 } : Room) (zPc (dC, dI) vwCl (tX0 cA) (wX0 ad cA nW nH ff fd cols rows ends ecost ecnt tails longer) [.ref (ad 0), .int a1]) (vp_Si Post) 0 0 (fun _ => False) := by
  refine Met.ofW (cc := cX0_darkInRow) (maxL := 2) (ret := (some .int)) (by decide) rfl ?_
  intro p e s m args below meth c s₁ B hml hv
  obtain ⟨rfl, hP, hK⟩ := hv
  have hC : zC p s m [.ref (ad 0), .int a1].toArray meth c cX0_darkInRow wsX0_darkInRow (some .int) 2 RX0 := ⟨B.exec, B.bytes, B.returns, hml, findClass_of_methodNamed B.named, atoms_spec (ws := wsX0_darkInRow) B.pre, B.notSynchronized⟩
  have hC0 := hC
  obtain ⟨hx, hb, hr, hml, hown, hts, hlocks⟩ := hC
  have hl := lv_entry ([.ref (ad 0), .int a1]) (n := 2) (Nat.le_of_ble_eq_true rfl)
  rw [lg_entry_eq]
  generalize (lg_sl ([.ref (ad 0), .int a1]) ++ List.replicate (2 - (lg_sl ([.ref (ad 0), .int a1])).length) Slot.unset).toArray = ls at hl ⊢
  have hl : lv_has ls 2 [(0, .ref (ad 0)), (1, .int a1)] := hl
  unfold wX0_darkInRow at h
  refine lv_aload_n hx hb dX0_darkInRow_0 rfl (lv_at hl 0 rfl) ?_
  refine va_get (D := (dC, dI)) (ci := 1) (v := .ref (ad 2)) (C := RX0) (T := TX0) (N := 11) hx hb hts in_X0_darkInRow hown hK hP 0 rfl rfl 3 (by decide) (hts (.fieldLink RX0 29 "SignCutter" "rows" "[J") (by decide +kernel)) (fun _ h9 => h9) rfl dX0_darkInRow_1 ?_
  refine lv_iload_n hx hb dX0_darkInRow_4 rfl (lv_at hl 1 rfl) ?_
  refine z_lald hx hb hK hP 2 1 rfl rfl h dX0_darkInRow_5 (fun j_1 h => ?_)
  refine z_cSi (As := [.long (rows j_1)]) (rest := []) ⟨hx, hb, hml, hown, hts⟩ (mJ13_bitCount_95d88 l h) (va_cwS 1 hts gX0_darkInRow_J13_bitCount_95d88 rfl rfl rfl (by decide +kernel) ⟨Nat.le_of_ble_eq_true rfl, Nat.le_of_ble_eq_true rfl⟩) rfl hl.1 rfl (Nat.le_of_ble_eq_true rfl) dX0_darkInRow_6 ⟨Nat.le_of_ble_eq_true rfl, Nat.le_of_ble_eq_true rfl⟩ (fun r_2 h => ?_)
  exact W.iret (v := r_2) hx hb hr (fun t ht hW => ⟨_, rfl, h, ht⟩) (fun q hq => absurd hq List.not_mem_nil) dX0_darkInRow_9
theorem in_X0_mostDarkInARow : ∀ w ∈ wsX00, w ∈ wsX0_mostDarkInARow := by decide +kernel
set_option maxHeartbeats 4000000 in
set_option maxRecDepth 100000 in
theorem tX0_mostDarkInARow_4 {p : Program} {l : Launch} {e : Env} {s : State} {m : MethodId} {args : Array Value} {below : List Frame} {meth : Method} {c : Code} {dC : Nat → ClassId} {dI : Nat → Nat → Nat} {ad : Nat → Nat} {cA : Nat → ClassId} {nW : Nat} {nH : Nat} {ff : Int32} {fd : Int32} {cols : Nat → Int64} {rows : Nat → Int64} {ends : Nat → Int64} {ecost : Nat → Int32} {ecnt : Nat → Int32} {tails : Nat → Int32} {longer : Nat → Int32} {Post : Int32 → Prop} (hC : zC p s m args meth c cX0_mostDarkInARow wsX0_mostDarkInARow (some .int) 3 RX0) (hK : va_K (dC, dI) vwCl (tX0 cA) s) (hP : va_P (dC, dI) vwCl (wX0 ad cA nW nH ff fd cols rows ends ecost ecnt tails longer) s.heap) : ∀ (n : Nat), ∀ (x1 : Int32) (x2 : Int32) (ls : Array Slot), lv_has ls 3 [(0, .ref (ad 0)), (1, .int x1), (2, .int x2)] → lX0_mostDarkInARow_4 nH rows Post n x1 x2 → W p l e ({ frames := 2, cells := 0, slots := 0, locals := 42 } : Room) s m args below meth c s.heap [] 0 0 (MQ below (vp_Si Post) args s 0 0 (fun _ => False)) (F0 m 4 ls []) := by
  have hC0 := hC
  obtain ⟨hx, hb, hr, hml, hown, hts, hlocks⟩ := hC
  intro n
  induction n with
  | zero =>
    intro x1 x2 ls hl h
    exact h.elim
  | succ n hr4 =>
    intro x1 x2 ls hl h
    have h : bX0_mostDarkInARow_4 nH rows Post (lX0_mostDarkInARow_4 nH rows Post n) x1 x2 := h
    unfold bX0_mostDarkInARow_4 at h
    refine lv_iload_n hx hb dX0_mostDarkInARow_4 rfl (lv_at hl 2 rfl) ?_
    refine lv_aload_n hx hb dX0_mostDarkInARow_5 rfl (lv_at hl 0 rfl) ?_
    refine va_get (D := (dC, dI)) (ci := 1) (v := .int (nI nH)) (C := RX0) (T := TX0) (N := 11) hx hb hts in_X0_mostDarkInARow hown hK hP 0 rfl rfl 1 (by decide) (hts (.fieldLink RX0 22 "SignCutter" "height" "I") (by decide +kernel)) (fun _ h9 => h9) rfl dX0_mostDarkInARow_6 ?_
    refine lv_icmp_ge (tgt := 28) hx hb dX0_mostDarkInARow_9 (by decide) (fun c => ?_) (fun c => ?_)
    · have h := h.1 c
      refine lv_iload_n hx hb dX0_mostDarkInARow_28 rfl (lv_at hl 1 rfl) ?_
      exact W.iret (v := x1) hx hb hr (fun t ht hW => ⟨_, rfl, h, ht⟩) (fun q hq => absurd hq List.not_mem_nil) dX0_mostDarkInARow_29
    · have h := h.2 c
      refine lv_iload_n hx hb dX0_mostDarkInARow_12 rfl (lv_at hl 1 rfl) ?_
      refine lv_aload_n hx hb dX0_mostDarkInARow_13 rfl (lv_at hl 0 rfl) ?_
      refine lv_iload_n hx hb dX0_mostDarkInARow_14 rfl (lv_at hl 2 rfl) ?_
      refine z_cVi (ci := 1) (As := [.int x2]) (rest := [.int x1]) ⟨hx, hb, hml, hown, hts⟩ (mX0_darkInRow l h) (cwV 1 hts gX0_mostDarkInARow_X0_darkInRow rfl rfl rfl (by decide +kernel) ⟨Nat.le_of_ble_eq_true rfl, Nat.le_of_ble_eq_true rfl⟩) hK hP 0 rfl rfl rfl rfl hl.1 rfl (Nat.le_of_ble_eq_true rfl) dX0_mostDarkInARow_15 ⟨Nat.le_of_ble_eq_true rfl, Nat.le_of_ble_eq_true rfl⟩ (fun r_1 h => ?_)
      refine va_mmax hx hb (hml.trans hl.1.symm) hown (hts (.methodLink RX0 15 Lib.Math.max.name) (by decide +kernel)) (hts (.static Lib.Math.max.name) (by decide +kernel)) (hts (.initialized "java/lang/Math") (by decide +kernel)) (hts (.code Lib.Math.max.name Lib.Math.max.code 2 (some .int)) (by decide +kernel)) (Nat.le_of_ble_eq_true rfl) (Nat.le_of_ble_eq_true rfl) (Nat.le_of_ble_eq_true rfl) (Nat.le_of_ble_eq_true rfl) dX0_mostDarkInARow_18 ?_
      refine W.eq (g2 := F0 m 21 ls [.int (zMax x1 r_1)]) rfl ?_
      refine lv_topi (fun x1_2 ex1_2 => ?_)
      have h := h x1_2 ex1_2
      refine lv_istore_n (lv' := [(1, .int x1_2), (0, .ref (ad 0)), (2, .int x2)]) hx hb dX0_mostDarkInARow_21 rfl hl (by decide) rfl (fun ls hl => ?_)
      refine lv_iinc (v := (x2 + 1)) (lv' := [(2, .int (x2 + 1)), (1, .int x1_2), (0, .ref (ad 0))]) hx hb dX0_mostDarkInARow_22 hl (k := 2) rfl rfl (by decide) rfl (fun ls hl => ?_)
      refine lv_goto (tgt := 4) hx hb dX0_mostDarkInARow_25 (by decide) ?_
      exact hr4 _ _ ls (lv_sub hl [2, 1, 0] rfl) h
set_option maxHeartbeats 4000000 in
set_option maxRecDepth 100000 in
theorem mX0_mostDarkInARow (l : Launch) {dC : Nat → ClassId} {dI : Nat → Nat → Nat} {ad : Nat → Nat} {cA : Nat → ClassId} {nW : Nat} {nH : Nat} {ff : Int32} {fd : Int32} {cols : Nat → Int64} {rows : Nat → Int64} {ends : Nat → Int64} {ecost : Nat → Int32} {ecnt : Nat → Int32} {tails : Nat → Int32} {longer : Nat → Int32} {Post : Int32 → Prop} (h : wX0_mostDarkInARow nH rows Post) : Met l yX0_mostDarkInARow wsX0_mostDarkInARow ({ frames := 2, cells := 0, slots := 0, locals := 42 } : Room) (zPc (dC, dI) vwCl (tX0 cA) (wX0 ad cA nW nH ff fd cols rows ends ecost ecnt tails longer) [.ref (ad 0)]) (vp_Si Post) 0 0 (fun _ => False) := by
  refine Met.ofW (cc := cX0_mostDarkInARow) (maxL := 3) (ret := (some .int)) (by decide) rfl ?_
  intro p e s m args below meth c s₁ B hml hv
  obtain ⟨rfl, hP, hK⟩ := hv
  have hC : zC p s m [.ref (ad 0)].toArray meth c cX0_mostDarkInARow wsX0_mostDarkInARow (some .int) 3 RX0 := ⟨B.exec, B.bytes, B.returns, hml, findClass_of_methodNamed B.named, atoms_spec (ws := wsX0_mostDarkInARow) B.pre, B.notSynchronized⟩
  have hC0 := hC
  obtain ⟨hx, hb, hr, hml, hown, hts, hlocks⟩ := hC
  have hl := lv_entry ([.ref (ad 0)]) (n := 3) (Nat.le_of_ble_eq_true rfl)
  rw [lg_entry_eq]
  generalize (lg_sl ([.ref (ad 0)]) ++ List.replicate (3 - (lg_sl ([.ref (ad 0)])).length) Slot.unset).toArray = ls at hl ⊢
  have hl : lv_has ls 3 [(0, .ref (ad 0))] := hl
  unfold wX0_mostDarkInARow at h
  refine lv_iconst (v := 0) hx hb dX0_mostDarkInARow_0 (by decide) ?_
  refine lv_istore_n (lv' := [(1, .int 0), (0, .ref (ad 0))]) hx hb dX0_mostDarkInARow_1 rfl hl (by decide) rfl (fun ls hl => ?_)
  refine lv_iconst (v := 0) hx hb dX0_mostDarkInARow_2 (by decide) ?_
  refine lv_istore_n (lv' := [(2, .int 0), (1, .int 0), (0, .ref (ad 0))]) hx hb dX0_mostDarkInARow_3 rfl hl (by decide) rfl (fun ls hl => ?_)
  obtain ⟨n_3, h⟩ := h
  exact tX0_mostDarkInARow_4 hC0 hK hP n_3 _ _ ls (lv_sub hl [2, 1, 0] rfl) h
theorem in_X0_firstStrongRow : ∀ w ∈ wsX00, w ∈ wsX0_firstStrongRow := by decide +kernel
set_option maxHeartbeats 4000000 in
set_option maxRecDepth 100000 in
theorem tX0_firstStrongRow_7 {p : Program} {l : Launch} {e : Env} {s : State} {m : MethodId} {args : Array Value} {below : List Frame} {meth : Method} {c : Code} {dC : Nat → ClassId} {dI : Nat → Nat → Nat} {ad : Nat → Nat} {cA : Nat → ClassId} {nW : Nat} {nH : Nat} {ff : Int32} {fd : Int32} {cols : Nat → Int64} {rows : Nat → Int64} {ends : Nat → Int64} {ecost : Nat → Int32} {ecnt : Nat → Int32} {tails : Nat → Int32} {longer : Nat → Int32} {Post : Int32 → Prop} (hC : zC p s m args meth c cX0_firstStrongRow wsX0_firstStrongRow (some .int) 3 RX0) (hK : va_K (dC, dI) vwCl (tX0 cA) s) (hP : va_P (dC, dI) vwCl (wX0 ad cA nW nH ff fd cols rows ends ecost ecnt tails longer) s.heap) : ∀ (n : Nat), ∀ (x1 : Int32) (x2 : Int32) (ls : Array Slot), lv_has ls 3 [(0, .ref (ad 0)), (1, .int x1), (2, .int x2)] → lX0_firstStrongRow_7 nH rows Post n x1 x2 → W p l e ({ frames := 3, cells := 0, slots := 0, locals := 64 } : Room) s m args below meth c s.heap [] 0 0 (MQ below (vp_Si Post) args s 0 0 (fun _ => False)) (F0 m 7 ls []) := by
  have hC0 := hC
  obtain ⟨hx, hb, hr, hml, hown, hts, hlocks⟩ := hC
  intro n
  induction n with
  | zero =>
    intro x1 x2 ls hl h
    exact h.elim
  | succ n hr7 =>
    intro x1 x2 ls hl h
    have h : bX0_firstStrongRow_7 nH rows Post (lX0_firstStrongRow_7 nH rows Post n) x1 x2 := h
    unfold bX0_firstStrongRow_7 at h
    refine lv_iload_n hx hb dX0_firstStrongRow_7 rfl (lv_at hl 2 rfl) ?_
    refine lv_aload_n hx hb dX0_firstStrongRow_8 rfl (lv_at hl 0 rfl) ?_
    refine va_get (D := (dC, dI)) (ci := 1) (v := .int (nI nH)) (C := RX0) (T := TX0) (N := 11) hx hb hts in_X0_firstStrongRow hown hK hP 0 rfl rfl 1 (by decide) (hts (.fieldLink RX0 22 "SignCutter" "height" "I") (by decide +kernel)) (fun _ h9 => h9) rfl dX0_firstStrongRow_9 ?_
    refine lv_icmp_ge (tgt := 34) hx hb dX0_firstStrongRow_12 (by decide) (fun c => ?_) (fun c => ?_)
    · have h := h.1 c
      refine lv_iconst (v := (-1)) hx hb dX0_firstStrongRow_34 (by decide) ?_
      exact W.iret (v := (-1)) hx hb hr (fun t ht hW => ⟨_, rfl, h, ht⟩) (fun q hq => absurd hq List.not_mem_nil) dX0_firstStrongRow_35
    · have h := h.2 c
      refine lv_iconst (v := 2) hx hb dX0_firstStrongRow_15 (by decide) ?_
      refine lv_aload_n hx hb dX0_firstStrongRow_16 rfl (lv_at hl 0 rfl) ?_
      refine lv_iload_n hx hb dX0_firstStrongRow_17 rfl (lv_at hl 2 rfl) ?_
      refine z_cVi (ci := 1) (As := [.int x2]) (rest := [.int 2]) ⟨hx, hb, hml, hown, hts⟩ (mX0_darkInRow l h) (cwV 1 hts gX0_firstStrongRow_X0_darkInRow rfl rfl rfl (by decide +kernel) ⟨Nat.le_of_ble_eq_true rfl, Nat.le_of_ble_eq_true rfl⟩) hK hP 0 rfl rfl rfl rfl hl.1 rfl (Nat.le_of_ble_eq_true rfl) dX0_firstStrongRow_18 ⟨Nat.le_of_ble_eq_true rfl, Nat.le_of_ble_eq_true rfl⟩ (fun r_2 h => ?_)
      refine lv_imul hx hb dX0_firstStrongRow_21 ?_
      refine lv_iload_n hx hb dX0_firstStrongRow_22 rfl (lv_at hl 1 rfl) ?_
      refine lv_icmp_lt (tgt := 28) hx hb dX0_firstStrongRow_23 (by decide) (fun c => ?_) (fun c => ?_)
      · have h := h.1 c
        refine lv_iinc (v := (x2 + 1)) (lv' := [(2, .int (x2 + 1)), (0, .ref (ad 0)), (1, .int x1)]) hx hb dX0_firstStrongRow_28 hl (k := 2) rfl rfl (by decide) rfl (fun ls hl => ?_)
        refine lv_goto (tgt := 7) hx hb dX0_firstStrongRow_31 (by decide) ?_
        exact hr7 _ _ ls (lv_sub hl [1, 2, 0] rfl) h
      · have h := h.2 c
        refine lv_iload_n hx hb dX0_firstStrongRow_26 rfl (lv_at hl 2 rfl) ?_
        exact W.iret (v := x2) hx hb hr (fun t ht hW => ⟨_, rfl, h, ht⟩) (fun q hq => absurd hq List.not_mem_nil) dX0_firstStrongRow_27
set_option maxHeartbeats 4000000 in
set_option maxRecDepth 100000 in
theorem mX0_firstStrongRow (l : Launch) {dC : Nat → ClassId} {dI : Nat → Nat → Nat} {ad : Nat → Nat} {cA : Nat → ClassId} {nW : Nat} {nH : Nat} {ff : Int32} {fd : Int32} {cols : Nat → Int64} {rows : Nat → Int64} {ends : Nat → Int64} {ecost : Nat → Int32} {ecnt : Nat → Int32} {tails : Nat → Int32} {longer : Nat → Int32} {Post : Int32 → Prop} (h : wX0_firstStrongRow nH rows Post) : Met l yX0_firstStrongRow wsX0_firstStrongRow ({ frames := 3, cells := 0, slots := 0, locals := 64 } : Room) (zPc (dC, dI) vwCl (tX0 cA) (wX0 ad cA nW nH ff fd cols rows ends ecost ecnt tails longer) [.ref (ad 0)]) (vp_Si Post) 0 0 (fun _ => False) := by
  refine Met.ofW (cc := cX0_firstStrongRow) (maxL := 3) (ret := (some .int)) (by decide) rfl ?_
  intro p e s m args below meth c s₁ B hml hv
  obtain ⟨rfl, hP, hK⟩ := hv
  have hC : zC p s m [.ref (ad 0)].toArray meth c cX0_firstStrongRow wsX0_firstStrongRow (some .int) 3 RX0 := ⟨B.exec, B.bytes, B.returns, hml, findClass_of_methodNamed B.named, atoms_spec (ws := wsX0_firstStrongRow) B.pre, B.notSynchronized⟩
  have hC0 := hC
  obtain ⟨hx, hb, hr, hml, hown, hts, hlocks⟩ := hC
  have hl := lv_entry ([.ref (ad 0)]) (n := 3) (Nat.le_of_ble_eq_true rfl)
  rw [lg_entry_eq]
  generalize (lg_sl ([.ref (ad 0)]) ++ List.replicate (3 - (lg_sl ([.ref (ad 0)])).length) Slot.unset).toArray = ls at hl ⊢
  have hl : lv_has ls 3 [(0, .ref (ad 0))] := hl
  unfold wX0_firstStrongRow at h
  refine lv_aload_n hx hb dX0_firstStrongRow_0 rfl (lv_at hl 0 rfl) ?_
  refine z_cVi (ci := 1) (As := []) (rest := []) ⟨hx, hb, hml, hown, hts⟩ (mX0_mostDarkInARow l h) (cwV 0 hts gX0_firstStrongRow_X0_mostDarkInARow rfl rfl rfl (by decide +kernel) ⟨Nat.le_of_ble_eq_true rfl, Nat.le_of_ble_eq_true rfl⟩) hK hP 0 rfl rfl rfl rfl hl.1 rfl (Nat.le_of_ble_eq_true rfl) dX0_firstStrongRow_1 ⟨Nat.le_of_ble_eq_true rfl, Nat.le_of_ble_eq_true rfl⟩ (fun r_1 h => ?_)
  refine lv_istore_n (lv' := [(1, .int r_1), (0, .ref (ad 0))]) hx hb dX0_firstStrongRow_4 rfl hl (by decide) rfl (fun ls hl => ?_)
  refine lv_iconst (v := 0) hx hb dX0_firstStrongRow_5 (by decide) ?_
  refine lv_istore_n (lv' := [(2, .int 0), (1, .int r_1), (0, .ref (ad 0))]) hx hb dX0_firstStrongRow_6 rfl hl (by decide) rfl (fun ls hl => ?_)
  obtain ⟨n_3, h⟩ := h
  exact tX0_firstStrongRow_7 hC0 hK hP n_3 _ _ ls (lv_sub hl [2, 1, 0] rfl) h
theorem in_X0_lastStrongRow : ∀ w ∈ wsX00, w ∈ wsX0_lastStrongRow := by decide +kernel
set_option maxHeartbeats 4000000 in
set_option maxRecDepth 100000 in
theorem tX0_lastStrongRow_12 {p : Program} {l : Launch} {e : Env} {s : State} {m : MethodId} {args : Array Value} {below : List Frame} {meth : Method} {c : Code} {dC : Nat → ClassId} {dI : Nat → Nat → Nat} {ad : Nat → Nat} {cA : Nat → ClassId} {nW : Nat} {nH : Nat} {ff : Int32} {fd : Int32} {cols : Nat → Int64} {rows : Nat → Int64} {ends : Nat → Int64} {ecost : Nat → Int32} {ecnt : Nat → Int32} {tails : Nat → Int32} {longer : Nat → Int32} {Post : Int32 → Prop} (hC : zC p s m args meth c cX0_lastStrongRow wsX0_lastStrongRow (some .int) 3 RX0) (hK : va_K (dC, dI) vwCl (tX0 cA) s) (hP : va_P (dC, dI) vwCl (wX0 ad cA nW nH ff fd cols rows ends ecost ecnt tails longer) s.heap) : ∀ (n : Nat), ∀ (x1 : Int32) (x2 : Int32) (ls : Array Slot), lv_has ls 3 [(0, .ref (ad 0)), (1, .int x1), (2, .int x2)] → lX0_lastStrongRow_12 nH rows Post n x1 x2 → W p l e ({ frames := 3, cells := 0, slots := 0, locals := 64 } : Room) s m args below meth c s.heap [] 0 0 (MQ below (vp_Si Post) args s 0 0 (fun _ => False)) (F0 m 12 ls []) := by
  have hC0 := hC
  obtain ⟨hx, hb, hr, hml, hown, hts, hlocks⟩ := hC
  intro n
  induction n with
  | zero =>
    intro x1 x2 ls hl h
    exact h.elim
  | succ n hr12 =>
    intro x1 x2 ls hl h
    have h : bX0_lastStrongRow_12 nH rows Post (lX0_lastStrongRow_12 nH rows Post n) x1 x2 := h
    unfold bX0_lastStrongRow_12 at h
    refine lv_iload_n hx hb dX0_lastStrongRow_12 rfl (lv_at hl 2 rfl) ?_
    refine lv_if_lt (tgt := 35) hx hb dX0_lastStrongRow_13 (by decide) (fun c => ?_) (fun c => ?_)
    · have h := h.1 c
      refine lv_iconst (v := (-1)) hx hb dX0_lastStrongRow_35 (by decide) ?_
      exact W.iret (v := (-1)) hx hb hr (fun t ht hW => ⟨_, rfl, h, ht⟩) (fun q hq => absurd hq List.not_mem_nil) dX0_lastStrongRow_36
    · have h := h.2 c
      refine lv_iconst (v := 2) hx hb dX0_lastStrongRow_16 (by decide) ?_
      refine lv_aload_n hx hb dX0_lastStrongRow_17 rfl (lv_at hl 0 rfl) ?_
      refine lv_iload_n hx hb dX0_lastStrongRow_18 rfl (lv_at hl 2 rfl) ?_
      refine z_cVi (ci := 1) (As := [.int x2]) (rest := [.int 2]) ⟨hx, hb, hml, hown, hts⟩ (mX0_darkInRow l h) (cwV 1 hts gX0_lastStrongRow_X0_darkInRow rfl rfl rfl (by decide +kernel) ⟨Nat.le_of_ble_eq_true rfl, Nat.le_of_ble_eq_true rfl⟩) hK hP 0 rfl rfl rfl rfl hl.1 rfl (Nat.le_of_ble_eq_true rfl) dX0_lastStrongRow_19 ⟨Nat.le_of_ble_eq_true rfl, Nat.le_of_ble_eq_true rfl⟩ (fun r_3 h => ?_)
      refine lv_imul hx hb dX0_lastStrongRow_22 ?_
      refine lv_iload_n hx hb dX0_lastStrongRow_23 rfl (lv_at hl 1 rfl) ?_
      refine lv_icmp_lt (tgt := 29) hx hb dX0_lastStrongRow_24 (by decide) (fun c => ?_) (fun c => ?_)
      · have h := h.1 c
        refine lv_iinc (v := (x2 + (-1))) (lv' := [(2, .int (x2 + (-1))), (0, .ref (ad 0)), (1, .int x1)]) hx hb dX0_lastStrongRow_29 hl (k := 2) rfl rfl (by decide) rfl (fun ls hl => ?_)
        refine lv_goto (tgt := 12) hx hb dX0_lastStrongRow_32 (by decide) ?_
        exact hr12 _ _ ls (lv_sub hl [1, 2, 0] rfl) h
      · have h := h.2 c
        refine lv_iload_n hx hb dX0_lastStrongRow_27 rfl (lv_at hl 2 rfl) ?_
        exact W.iret (v := x2) hx hb hr (fun t ht hW => ⟨_, rfl, h, ht⟩) (fun q hq => absurd hq List.not_mem_nil) dX0_lastStrongRow_28
set_option maxHeartbeats 4000000 in
set_option maxRecDepth 100000 in
theorem mX0_lastStrongRow (l : Launch) {dC : Nat → ClassId} {dI : Nat → Nat → Nat} {ad : Nat → Nat} {cA : Nat → ClassId} {nW : Nat} {nH : Nat} {ff : Int32} {fd : Int32} {cols : Nat → Int64} {rows : Nat → Int64} {ends : Nat → Int64} {ecost : Nat → Int32} {ecnt : Nat → Int32} {tails : Nat → Int32} {longer : Nat → Int32} {Post : Int32 → Prop} (h : wX0_lastStrongRow nH rows Post) : Met l yX0_lastStrongRow wsX0_lastStrongRow ({ frames := 3, cells := 0, slots := 0, locals := 64 } : Room) (zPc (dC, dI) vwCl (tX0 cA) (wX0 ad cA nW nH ff fd cols rows ends ecost ecnt tails longer) [.ref (ad 0)]) (vp_Si Post) 0 0 (fun _ => False) := by
  refine Met.ofW (cc := cX0_lastStrongRow) (maxL := 3) (ret := (some .int)) (by decide) rfl ?_
  intro p e s m args below meth c s₁ B hml hv
  obtain ⟨rfl, hP, hK⟩ := hv
  have hC : zC p s m [.ref (ad 0)].toArray meth c cX0_lastStrongRow wsX0_lastStrongRow (some .int) 3 RX0 := ⟨B.exec, B.bytes, B.returns, hml, findClass_of_methodNamed B.named, atoms_spec (ws := wsX0_lastStrongRow) B.pre, B.notSynchronized⟩
  have hC0 := hC
  obtain ⟨hx, hb, hr, hml, hown, hts, hlocks⟩ := hC
  have hl := lv_entry ([.ref (ad 0)]) (n := 3) (Nat.le_of_ble_eq_true rfl)
  rw [lg_entry_eq]
  generalize (lg_sl ([.ref (ad 0)]) ++ List.replicate (3 - (lg_sl ([.ref (ad 0)])).length) Slot.unset).toArray = ls at hl ⊢
  have hl : lv_has ls 3 [(0, .ref (ad 0))] := hl
  unfold wX0_lastStrongRow at h
  refine lv_aload_n hx hb dX0_lastStrongRow_0 rfl (lv_at hl 0 rfl) ?_
  refine z_cVi (ci := 1) (As := []) (rest := []) ⟨hx, hb, hml, hown, hts⟩ (mX0_mostDarkInARow l h) (cwV 0 hts gX0_lastStrongRow_X0_mostDarkInARow rfl rfl rfl (by decide +kernel) ⟨Nat.le_of_ble_eq_true rfl, Nat.le_of_ble_eq_true rfl⟩) hK hP 0 rfl rfl rfl rfl hl.1 rfl (Nat.le_of_ble_eq_true rfl) dX0_lastStrongRow_1 ⟨Nat.le_of_ble_eq_true rfl, Nat.le_of_ble_eq_true rfl⟩ (fun r_1 h => ?_)
  refine lv_istore_n (lv' := [(1, .int r_1), (0, .ref (ad 0))]) hx hb dX0_lastStrongRow_4 rfl hl (by decide) rfl (fun ls hl => ?_)
  refine lv_aload_n hx hb dX0_lastStrongRow_5 rfl (lv_at hl 1 rfl) ?_
  refine va_get (D := (dC, dI)) (ci := 1) (v := .int (nI nH)) (C := RX0) (T := TX0) (N := 11) hx hb hts in_X0_lastStrongRow hown hK hP 0 rfl rfl 1 (by decide) (hts (.fieldLink RX0 22 "SignCutter" "height" "I") (by decide +kernel)) (fun _ h9 => h9) rfl dX0_lastStrongRow_6 ?_
  refine lv_iconst (v := 1) hx hb dX0_lastStrongRow_9 (by decide) ?_
  refine lv_isub hx hb dX0_lastStrongRow_10 ?_
  refine lv_topi (fun x2_2 ex2_2 => ?_)
  have h := h x2_2 ex2_2
  refine lv_istore_n (lv' := [(2, .int x2_2), (1, .int r_1), (0, .ref (ad 0))]) hx hb dX0_lastStrongRow_11 rfl hl (by decide) rfl (fun ls hl => ?_)
  obtain ⟨n_4, h⟩ := h
  exact tX0_lastStrongRow_12 hC0 hK hP n_4 _ _ ls (lv_sub hl [2, 1, 0] rfl) h
theorem in_X0_dueWidth : ∀ w ∈ wsX00, w ∈ wsX0_dueWidth := by decide +kernel
set_option maxHeartbeats 4000000 in
set_option maxRecDepth 100000 in
theorem mX0_dueWidth (l : Launch) {dC : Nat → ClassId} {dI : Nat → Nat → Nat} {ad : Nat → Nat} {cA : Nat → ClassId} {nW : Nat} {nH : Nat} {ff : Int32} {fd : Int32} {cols : Nat → Int64} {rows : Nat → Int64} {ends : Nat → Int64} {ecost : Nat → Int32} {ecnt : Nat → Int32} {tails : Nat → Int32} {longer : Nat → Int32} {Post : Int32 → Prop} (h : wX0_dueWidth nH rows Post) : Met l yX0_dueWidth wsX0_dueWidth ({ frames := 4, cells := 0, slots := 0, locals := 86 } : Room) (zPc (dC, dI) vwCl (tX0 cA) (wX0 ad cA nW nH ff fd cols rows ends ecost ecnt tails longer) [.ref (ad 0)]) (vp_Si Post) 0 0 (fun _ => False) := by
  refine Met.ofW (cc := cX0_dueWidth) (maxL := 1) (ret := (some .int)) (by decide) rfl ?_
  intro p e s m args below meth c s₁ B hml hv
  obtain ⟨rfl, hP, hK⟩ := hv
  have hC : zC p s m [.ref (ad 0)].toArray meth c cX0_dueWidth wsX0_dueWidth (some .int) 1 RX0 := ⟨B.exec, B.bytes, B.returns, hml, findClass_of_methodNamed B.named, atoms_spec (ws := wsX0_dueWidth) B.pre, B.notSynchronized⟩
  have hC0 := hC
  obtain ⟨hx, hb, hr, hml, hown, hts, hlocks⟩ := hC
  have hl := lv_entry ([.ref (ad 0)]) (n := 1) (Nat.le_of_ble_eq_true rfl)
  rw [lg_entry_eq]
  generalize (lg_sl ([.ref (ad 0)]) ++ List.replicate (1 - (lg_sl ([.ref (ad 0)])).length) Slot.unset).toArray = ls at hl ⊢
  have hl : lv_has ls 1 [(0, .ref (ad 0))] := hl
  unfold wX0_dueWidth at h
  refine lv_aload_n hx hb dX0_dueWidth_0 rfl (lv_at hl 0 rfl) ?_
  refine z_cVi (ci := 1) (As := []) (rest := []) ⟨hx, hb, hml, hown, hts⟩ (mX0_lastStrongRow l h) (cwV 0 hts gX0_dueWidth_X0_lastStrongRow rfl rfl rfl (by decide +kernel) ⟨Nat.le_of_ble_eq_true rfl, Nat.le_of_ble_eq_true rfl⟩) hK hP 0 rfl rfl rfl rfl hl.1 rfl (Nat.le_of_ble_eq_true rfl) dX0_dueWidth_1 ⟨Nat.le_of_ble_eq_true rfl, Nat.le_of_ble_eq_true rfl⟩ (fun r_1 h => ?_)
  refine lv_aload_n hx hb dX0_dueWidth_4 rfl (lv_at hl 0 rfl) ?_
  refine z_cVi (ci := 1) (As := []) (rest := [.int r_1]) ⟨hx, hb, hml, hown, hts⟩ (mX0_firstStrongRow l h) (cwV 0 hts gX0_dueWidth_X0_firstStrongRow rfl rfl rfl (by decide +kernel) ⟨Nat.le_of_ble_eq_true rfl, Nat.le_of_ble_eq_true rfl⟩) hK hP 0 rfl rfl rfl rfl hl.1 rfl (Nat.le_of_ble_eq_true rfl) dX0_dueWidth_5 ⟨Nat.le_of_ble_eq_true rfl, Nat.le_of_ble_eq_true rfl⟩ (fun r_2 h => ?_)
  refine lv_isub hx hb dX0_dueWidth_8 ?_
  refine lv_iconst (v := 3) hx hb dX0_dueWidth_9 (by decide) ?_
  refine lv_imul hx hb dX0_dueWidth_10 ?_
  refine lv_iconst (v := 4) hx hb dX0_dueWidth_11 (by decide) ?_
  refine lv_idiv hx hb dX0_dueWidth_12 (by decide) ?_
  refine lv_iconst (v := 2) hx hb dX0_dueWidth_13 (by decide) ?_
  refine lv_iadd hx hb dX0_dueWidth_14 ?_
  exact W.iret (v := ((((r_1 - r_2) * 3) / 4) + 2)) hx hb hr (fun t ht hW => ⟨_, rfl, h, ht⟩) (fun q hq => absurd hq List.not_mem_nil) dX0_dueWidth_15
theorem in_X0_shearedColumns : ∀ w ∈ wsX00, w ∈ wsX0_shearedColumns := by decide +kernel
set_option maxHeartbeats 4000000 in
set_option maxRecDepth 100000 in
theorem tX0_shearedColumns_8 {p : Program} {l : Launch} {e : Env} {s : State} {m : MethodId} {args : Array Value} {below : List Frame} {meth : Method} {c : Code} {dC : Nat → ClassId} {dI : Nat → Nat → Nat} {ad : Nat → Nat} {cA : Nat → ClassId} {nW : Nat} {nH : Nat} {ff : Int32} {fd : Int32} {cols : Nat → Int64} {rows : Nat → Int64} {ends : Nat → Int64} {ecost : Nat → Int32} {ecnt : Nat → Int32} {tails : Nat → Int32} {longer : Nat → Int32} {a1 : Int32} {Post : Int32 → Prop} (hC : zC p s m args meth c cX0_shearedColumns wsX0_shearedColumns (some .int) 8 RX0) (hK : va_K (dC, dI) vwCl (tX0 cA) s) (hP : va_P (dC, dI) vwCl (wX0 ad cA nW nH ff fd cols rows ends ecost ecnt tails longer) s.heap) : ∀ (n : Nat), ∀ (x2 : Int64) (x4 : Int64) (x6 : Int32) (ls : Array Slot), lv_has ls 8 [(0, .ref (ad 0)), (1, .int a1), (2, .long x2), (4, .long x4), (6, .int x6)] → lX0_shearedColumns_8 nH rows a1 Post n x2 x4 x6 → W p l e ({ frames := 1, cells := 0, slots := 0, locals := 22 } : Room) s m args below meth c s.heap [] 0 0 (MQ below (vp_Si Post) args s 0 0 (fun _ => False)) (F0 m 8 ls []) := by
  have hC0 := hC
  obtain ⟨hx, hb, hr, hml, hown, hts, hlocks⟩ := hC
  intro n
  induction n with
  | zero =>
    intro x2 x4 x6 ls hl h
    exact h.elim
  | succ n hr8 =>
    intro x2 x4 x6 ls hl h
    have h : bX0_shearedColumns_8 nH rows a1 Post (lX0_shearedColumns_8 nH rows a1 Post n) x2 x4 x6 := h
    unfold bX0_shearedColumns_8 at h
    refine lv_iload hx hb dX0_shearedColumns_8 (lv_at hl 4 rfl) ?_
    refine lv_aload_n hx hb dX0_shearedColumns_10 rfl (lv_at hl 0 rfl) ?_
    refine va_get (D := (dC, dI)) (ci := 1) (v := .int (nI nH)) (C := RX0) (T := TX0) (N := 11) hx hb hts in_X0_shearedColumns hown hK hP 0 rfl rfl 1 (by decide) (hts (.fieldLink RX0 22 "SignCutter" "height" "I") (by decide +kernel)) (fun _ h9 => h9) rfl dX0_shearedColumns_11 ?_
    refine lv_icmp_ge (tgt := 77) hx hb dX0_shearedColumns_14 (by decide) (fun c => ?_) (fun c => ?_)
    · have h := h.1 c
      refine lv_lload_n hx hb dX0_shearedColumns_77 rfl (lv_at hl 2 rfl) ?_
      refine z_cSi (As := [.long x2]) (rest := []) ⟨hx, hb, hml, hown, hts⟩ (mJ13_bitCount_95d88 l h) (va_cwS 1 hts gX0_shearedColumns_J13_bitCount_95d88 rfl rfl rfl (by decide +kernel) ⟨Nat.le_of_ble_eq_true rfl, Nat.le_of_ble_eq_true rfl⟩) rfl hl.1 rfl (Nat.le_of_ble_eq_true rfl) dX0_shearedColumns_78 ⟨Nat.le_of_ble_eq_true rfl, Nat.le_of_ble_eq_true rfl⟩ (fun r_1 h => ?_)
      refine lv_lload hx hb dX0_shearedColumns_81 (lv_at hl 3 rfl) ?_
      refine z_cSi (As := [.long x4]) (rest := [.int r_1]) ⟨hx, hb, hml, hown, hts⟩ (mJ13_bitCount_95d88 l h) (va_cwS 1 hts gX0_shearedColumns_J13_bitCount_95d88 rfl rfl rfl (by decide +kernel) ⟨Nat.le_of_ble_eq_true rfl, Nat.le_of_ble_eq_true rfl⟩) rfl hl.1 rfl (Nat.le_of_ble_eq_true rfl) dX0_shearedColumns_83 ⟨Nat.le_of_ble_eq_true rfl, Nat.le_of_ble_eq_true rfl⟩ (fun r_2 h => ?_)
      refine lv_iadd hx hb dX0_shearedColumns_86 ?_
      exact W.iret (v := (r_1 + r_2)) hx hb hr (fun t ht hW => ⟨_, rfl, h, ht⟩) (fun q hq => absurd hq List.not_mem_nil) dX0_shearedColumns_87
    · have h := h.2 c
      refine lv_bipush (v := 30) hx hb dX0_shearedColumns_17 (by decide) ?_
      refine lv_iload_n hx hb dX0_shearedColumns_19 rfl (lv_at hl 1 rfl) ?_
      refine lv_aload_n hx hb dX0_shearedColumns_20 rfl (lv_at hl 0 rfl) ?_
      refine va_get (D := (dC, dI)) (ci := 1) (v := .int (nI nH)) (C := RX0) (T := TX0) (N := 11) hx hb hts in_X0_shearedColumns hown hK hP 0 rfl rfl 1 (by decide) (hts (.fieldLink RX0 22 "SignCutter" "height" "I") (by decide +kernel)) (fun _ h9 => h9) rfl dX0_shearedColumns_21 ?_
      refine lv_iconst (v := 1) hx hb dX0_shearedColumns_24 (by decide) ?_
      refine lv_isub hx hb dX0_shearedColumns_25 ?_
      refine lv_iload hx hb dX0_shearedColumns_26 (lv_at hl 4 rfl) ?_
      refine lv_isub hx hb dX0_shearedColumns_28 ?_
      refine lv_imul hx hb dX0_shearedColumns_29 ?_
      refine lv_bipush (v := 8) hx hb dX0_shearedColumns_30 (by decide) ?_
      refine z_cSi (As := [.int (a1 * (((nI nH) - 1) - x6)), .int 8]) (rest := [.int 30]) ⟨hx, hb, hml, hown, hts⟩ (mJ9_floorDiv_7cf53 l h) (va_cwS 2 hts gX0_shearedColumns_J9_floorDiv_7cf53 rfl rfl rfl (by decide +kernel) ⟨Nat.le_of_ble_eq_true rfl, Nat.le_of_ble_eq_true rfl⟩) rfl hl.1 rfl (Nat.le_of_ble_eq_true rfl) dX0_shearedColumns_32 ⟨Nat.le_of_ble_eq_true rfl, Nat.le_of_ble_eq_true rfl⟩ (fun r_3 h => ?_)
      refine lv_iadd hx hb dX0_shearedColumns_35 ?_
      refine lv_topi (fun x7_4 ex7_4 => ?_)
      have h := h x7_4 ex7_4
      refine lv_istore (lv' := [(7, .int x7_4), (0, .ref (ad 0)), (1, .int a1), (2, .long x2), (4, .long x4), (6, .int x6)]) hx hb dX0_shearedColumns_36 hl (by decide) rfl (fun ls hl => ?_)
      refine lv_lload_n hx hb dX0_shearedColumns_38 rfl (lv_at hl 3 rfl) ?_
      refine lv_aload_n hx hb dX0_shearedColumns_39 rfl (lv_at hl 1 rfl) ?_
      refine va_get (D := (dC, dI)) (ci := 1) (v := .ref (ad 2)) (C := RX0) (T := TX0) (N := 11) hx hb hts in_X0_shearedColumns hown hK hP 0 rfl rfl 3 (by decide) (hts (.fieldLink RX0 29 "SignCutter" "rows" "[J") (by decide +kernel)) (fun _ h9 => h9) rfl dX0_shearedColumns_40 ?_
      refine lv_iload hx hb dX0_shearedColumns_43 (lv_at hl 5 rfl) ?_
      refine z_lald hx hb hK hP 2 1 rfl rfl h dX0_shearedColumns_45 (fun j_5 h => ?_)
      refine lv_iload hx hb dX0_shearedColumns_46 (lv_at hl 0 rfl) ?_
      refine lv_lshl (v := (zShl (rows j_5) x7_4)) hx hb dX0_shearedColumns_48 rfl ?_
      refine lv_lor hx hb dX0_shearedColumns_49 ?_
      refine lv_topl (fun x2_6 ex2_6 => ?_)
      have h := h x2_6 ex2_6
      refine lv_lstore_n (lv' := [(2, .long x2_6), (7, .int x7_4), (0, .ref (ad 0)), (1, .int a1), (4, .long x4), (6, .int x6)]) hx hb dX0_shearedColumns_50 rfl hl (by decide) rfl (fun ls hl => ?_)
      refine lv_lload hx hb dX0_shearedColumns_51 (lv_at hl 4 rfl) ?_
      refine lv_aload_n hx hb dX0_shearedColumns_53 rfl (lv_at hl 2 rfl) ?_
      refine va_get (D := (dC, dI)) (ci := 1) (v := .ref (ad 2)) (C := RX0) (T := TX0) (N := 11) hx hb hts in_X0_shearedColumns hown hK hP 0 rfl rfl 3 (by decide) (hts (.fieldLink RX0 29 "SignCutter" "rows" "[J") (by decide +kernel)) (fun _ h9 => h9) rfl dX0_shearedColumns_54 ?_
      refine lv_iload hx hb dX0_shearedColumns_57 (lv_at hl 5 rfl) ?_
      refine z_lald hx hb hK hP 2 1 rfl rfl h dX0_shearedColumns_59 (fun j_7 h => ?_)
      refine lv_iconst (v := 1) hx hb dX0_shearedColumns_60 (by decide) ?_
      refine lv_lushr (v := (zUshr (rows j_7) 1)) hx hb dX0_shearedColumns_61 rfl ?_
      refine lv_bipush (v := 63) hx hb dX0_shearedColumns_62 (by decide) ?_
      refine lv_iload hx hb dX0_shearedColumns_64 (lv_at hl 1 rfl) ?_
      refine lv_isub hx hb dX0_shearedColumns_66 ?_
      refine lv_lushr (v := (zUshr (zUshr (rows j_7) 1) (63 - x7_4))) hx hb dX0_shearedColumns_67 rfl ?_
      refine lv_lor hx hb dX0_shearedColumns_68 ?_
      refine lv_topl (fun x4_8 ex4_8 => ?_)
      have h := h x4_8 ex4_8
      refine lv_lstore (lv' := [(4, .long x4_8), (2, .long x2_6), (7, .int x7_4), (0, .ref (ad 0)), (1, .int a1), (6, .int x6)]) hx hb dX0_shearedColumns_69 hl (by decide) rfl (fun ls hl => ?_)
      refine lv_iinc (v := (x6 + 1)) (lv' := [(6, .int (x6 + 1)), (4, .long x4_8), (2, .long x2_6), (7, .int x7_4), (0, .ref (ad 0)), (1, .int a1)]) hx hb dX0_shearedColumns_71 hl (k := 5) rfl rfl (by decide) rfl (fun ls hl => ?_)
      refine lv_goto (tgt := 8) hx hb dX0_shearedColumns_74 (by decide) ?_
      exact hr8 _ _ _ ls (lv_sub hl [4, 5, 2, 1, 0] rfl) h
set_option maxHeartbeats 4000000 in
set_option maxRecDepth 100000 in
theorem mX0_shearedColumns (l : Launch) {dC : Nat → ClassId} {dI : Nat → Nat → Nat} {ad : Nat → Nat} {cA : Nat → ClassId} {nW : Nat} {nH : Nat} {ff : Int32} {fd : Int32} {cols : Nat → Int64} {rows : Nat → Int64} {ends : Nat → Int64} {ecost : Nat → Int32} {ecnt : Nat → Int32} {tails : Nat → Int32} {longer : Nat → Int32} {a1 : Int32} {Post : Int32 → Prop} (h : wX0_shearedColumns nH rows a1 Post) : Met l yX0_shearedColumns wsX0_shearedColumns ({ frames := 1, cells := 0, slots := 0, locals := 22 } : Room) (zPc (dC, dI) vwCl (tX0 cA) (wX0 ad cA nW nH ff fd cols rows ends ecost ecnt tails longer) [.ref (ad 0), .int a1]) (vp_Si Post) 0 0 (fun _ => False) := by
  refine Met.ofW (cc := cX0_shearedColumns) (maxL := 8) (ret := (some .int)) (by decide) rfl ?_
  intro p e s m args below meth c s₁ B hml hv
  obtain ⟨rfl, hP, hK⟩ := hv
  have hC : zC p s m [.ref (ad 0), .int a1].toArray meth c cX0_shearedColumns wsX0_shearedColumns (some .int) 8 RX0 := ⟨B.exec, B.bytes, B.returns, hml, findClass_of_methodNamed B.named, atoms_spec (ws := wsX0_shearedColumns) B.pre, B.notSynchronized⟩
  have hC0 := hC
  obtain ⟨hx, hb, hr, hml, hown, hts, hlocks⟩ := hC
  have hl := lv_entry ([.ref (ad 0), .int a1]) (n := 8) (Nat.le_of_ble_eq_true rfl)
  rw [lg_entry_eq]
  generalize (lg_sl ([.ref (ad 0), .int a1]) ++ List.replicate (8 - (lg_sl ([.ref (ad 0), .int a1])).length) Slot.unset).toArray = ls at hl ⊢
  have hl : lv_has ls 8 [(0, .ref (ad 0)), (1, .int a1)] := hl
  unfold wX0_shearedColumns at h
  refine lv_lconst (v := 0) hx hb dX0_shearedColumns_0 (by decide) ?_
  refine lv_lstore_n (lv' := [(2, .long 0), (0, .ref (ad 0)), (1, .int a1)]) hx hb dX0_shearedColumns_1 rfl hl (by decide) rfl (fun ls hl => ?_)
  refine lv_lconst (v := 0) hx hb dX0_shearedColumns_2 (by decide) ?_
  refine lv_lstore (lv' := [(4, .long 0), (2, .long 0), (0, .ref (ad 0)), (1, .int a1)]) hx hb dX0_shearedColumns_3 hl (by decide) rfl (fun ls hl => ?_)
  refine lv_iconst (v := 0) hx hb dX0_shearedColumns_5 (by decide) ?_
  refine lv_istore (lv' := [(6, .int 0), (4, .long 0), (2, .long 0), (0, .ref (ad 0)), (1, .int a1)]) hx hb dX0_shearedColumns_6 hl (by decide) rfl (fun ls hl => ?_)
  obtain ⟨n_9, h⟩ := h
  exact tX0_shearedColumns_8 hC0 hK hP n_9 _ _ _ ls (lv_sub hl [3, 4, 2, 1, 0] rfl) h
theorem in_X0_touch : ∀ w ∈ wsX00, w ∈ wsX0_touch := by decide +kernel
set_option maxHeartbeats 4000000 in
set_option maxRecDepth 100000 in
theorem mX0_touch (l : Launch) {dC : Nat → ClassId} {dI : Nat → Nat → Nat} {ad : Nat → Nat} {cA : Nat → ClassId} {nW : Nat} {nH : Nat} {ff : Int32} {fd : Int32} {cols : Nat → Int64} {rows : Nat → Int64} {ends : Nat → Int64} {ecost : Nat → Int32} {ecnt : Nat → Int32} {tails : Nat → Int32} {longer : Nat → Int32} {a1 : Int32} {Post : Int32 → Prop} (h : wX0_touch nW cols a1 Post) : Met l yX0_touch wsX0_touch ({ frames := 1, cells := 0, slots := 0, locals := 21 } : Room) (zPc (dC, dI) vwCl (tX0 cA) (wX0 ad cA nW nH ff fd cols rows ends ecost ecnt tails longer) [.ref (ad 0), .int a1]) (vp_Si Post) 0 0 (fun _ => False) := by
  refine Met.ofW (cc := cX0_touch) (maxL := 2) (ret := (some .int)) (by decide) rfl ?_
  intro p e s m args below meth c s₁ B hml hv
  obtain ⟨rfl, hP, hK⟩ := hv
  have hC : zC p s m [.ref (ad 0), .int a1].toArray meth c cX0_touch wsX0_touch (some .int) 2 RX0 := ⟨B.exec, B.bytes, B.returns, hml, findClass_of_methodNamed B.named, atoms_spec (ws := wsX0_touch) B.pre, B.notSynchronized⟩
  have hC0 := hC
  obtain ⟨hx, hb, hr, hml, hown, hts, hlocks⟩ := hC
  have hl := lv_entry ([.ref (ad 0), .int a1]) (n := 2) (Nat.le_of_ble_eq_true rfl)
  rw [lg_entry_eq]
  generalize (lg_sl ([.ref (ad 0), .int a1]) ++ List.replicate (2 - (lg_sl ([.ref (ad 0), .int a1])).length) Slot.unset).toArray = ls at hl ⊢
  have hl : lv_has ls 2 [(0, .ref (ad 0)), (1, .int a1)] := hl
  unfold wX0_touch at h
  refine lv_aload_n hx hb dX0_touch_0 rfl (lv_at hl 0 rfl) ?_
  refine va_get (D := (dC, dI)) (ci := 1) (v := .ref (ad 1)) (C := RX0) (T := TX0) (N := 11) hx hb hts in_X0_touch hown hK hP 0 rfl rfl 2 (by decide) (hts (.fieldLink RX0 25 "SignCutter" "columns" "[J") (by decide +kernel)) (fun _ h9 => h9) rfl dX0_touch_1 ?_
  refine lv_iload_n hx hb dX0_touch_4 rfl (lv_at hl 1 rfl) ?_
  refine lv_iconst (v := 1) hx hb dX0_touch_5 (by decide) ?_
  refine lv_isub hx hb dX0_touch_6 ?_
  refine z_lald hx hb hK hP 1 0 rfl rfl h dX0_touch_7 (fun j_1 h => ?_)
  refine lv_aload_n hx hb dX0_touch_8 rfl (lv_at hl 0 rfl) ?_
  refine va_get (D := (dC, dI)) (ci := 1) (v := .ref (ad 1)) (C := RX0) (T := TX0) (N := 11) hx hb hts in_X0_touch hown hK hP 0 rfl rfl 2 (by decide) (hts (.fieldLink RX0 25 "SignCutter" "columns" "[J") (by decide +kernel)) (fun _ h9 => h9) rfl dX0_touch_9 ?_
  refine lv_iload_n hx hb dX0_touch_12 rfl (lv_at hl 1 rfl) ?_
  refine z_lald hx hb hK hP 1 0 rfl rfl h dX0_touch_13 (fun j_2 h => ?_)
  refine lv_land hx hb dX0_touch_14 ?_
  refine z_cSi (As := [.long ((cols j_1) &&& (cols j_2))]) (rest := []) ⟨hx, hb, hml, hown, hts⟩ (mJ13_bitCount_95d88 l h) (va_cwS 1 hts gX0_touch_J13_bitCount_95d88 rfl rfl rfl (by decide +kernel) ⟨Nat.le_of_ble_eq_true rfl, Nat.le_of_ble_eq_true rfl⟩) rfl hl.1 rfl (Nat.le_of_ble_eq_true rfl) dX0_touch_15 ⟨Nat.le_of_ble_eq_true rfl, Nat.le_of_ble_eq_true rfl⟩ (fun r_3 h => ?_)
  exact W.iret (v := r_3) hx hb hr (fun t ht hW => ⟨_, rfl, h, ht⟩) (fun q hq => absurd hq List.not_mem_nil) dX0_touch_18
theorem in_X0_placesToCut : ∀ w ∈ wsX00, w ∈ wsX0_placesToCut := by decide +kernel
set_option maxHeartbeats 4000000 in
set_option maxRecDepth 100000 in
theorem tX0_placesToCut_40 {p : Program} {l : Launch} {e : Env} {s : State} {m : MethodId} {args : Array Value} {below : List Frame} {meth : Method} {c : Code} {dC : Nat → ClassId} {dI : Nat → Nat → Nat} {ad : Nat → Nat} {cA : Nat → ClassId} {nW : Nat} {nH : Nat} {ff : Int32} {fd : Int32} {cols : Nat → Int64} {rows : Nat → Int64} {ends : Nat → Int64} {ecost : Nat → Int32} {ecnt : Nat → Int32} {tails : Nat → Int32} {longer : Nat → Int32} {a1 : Int32} {a2 : Int32} {Post : Int64 → Prop} (hC : zC p s m args meth c cX0_placesToCut wsX0_placesToCut (some .long) 7 RX0) (hK : va_K (dC, dI) vwCl (tX0 cA) s) (hP : va_P (dC, dI) vwCl (wX0 ad cA nW nH ff fd cols rows ends ecost ecnt tails longer) s.heap) {r7 : Int64 → Int32 → Prop} (hr7 : ∀ (x3 : Int64) (x5 : Int32) (ls : Array Slot), lv_has ls 7 [(0, .ref (ad 0)), (1, .int a1), (2, .int a2), (3, .long x3), (5, .int x5)] → r7 x3 x5 → W p l e ({ frames := 2, cells := 0, slots := 0, locals := 42 } : Room) s m args below meth c s.heap [] 0 0 (MQ below (vp_Sl Post) args s 0 0 (fun _ => False)) (F0 m 7 ls [])) : ∀ (x3 : Int64) (x5 : Int32) (s0 : Int32) (ls : Array Slot), lv_has ls 7 [(0, .ref (ad 0)), (1, .int a1), (2, .int a2), (3, .long x3), (5, .int x5)] → jX0_placesToCut_40 nW cols a1 a2 Post r7 x3 x5 s0 → W p l e ({ frames := 2, cells := 0, slots := 0, locals := 42 } : Room) s m args below meth c s.heap [] 0 0 (MQ below (vp_Sl Post) args s 0 0 (fun _ => False)) (F0 m 40 ls [.int s0]) := by
  have hC0 := hC
  obtain ⟨hx, hb, hr, hml, hown, hts, hlocks⟩ := hC
  intro x3 x5 s0 ls hl h
  unfold jX0_placesToCut_40 at h
  refine lv_istore (lv' := [(6, .int s0), (0, .ref (ad 0)), (1, .int a1), (2, .int a2), (3, .long x3), (5, .int x5)]) hx hb dX0_placesToCut_40 hl (by decide) rfl (fun ls hl => ?_)
  refine lv_iload hx hb dX0_placesToCut_42 (lv_at hl 0 rfl) ?_
  refine lv_if_eq (tgt := 64) hx hb dX0_placesToCut_44 (by decide) (fun c => ?_) (fun c => ?_)
  · have h := h.1 c
    refine lv_iinc (v := (x5 + 1)) (lv' := [(5, .int (x5 + 1)), (6, .int s0), (0, .ref (ad 0)), (1, .int a1), (2, .int a2), (3, .long x3)]) hx hb dX0_placesToCut_64 hl (k := 5) rfl rfl (by decide) rfl (fun ls hl => ?_)
    refine lv_goto (tgt := 7) hx hb dX0_placesToCut_67 (by decide) ?_
    exact hr7 _ _ ls (lv_sub hl [2, 3, 4, 5, 0] rfl) h
  · have h := h.2 c
    refine lv_aload_n hx hb dX0_placesToCut_47 rfl (lv_at hl 1 rfl) ?_
    refine lv_iload hx hb dX0_placesToCut_48 (lv_at hl 5 rfl) ?_
    refine z_cVi (ci := 1) (As := [.int x5]) (rest := []) ⟨hx, hb, hml, hown, hts⟩ (mX0_touch l h) (cwV 1 hts gX0_placesToCut_X0_touch rfl rfl rfl (by decide +kernel) ⟨Nat.le_of_ble_eq_true rfl, Nat.le_of_ble_eq_true rfl⟩) hK hP 0 rfl rfl rfl rfl hl.1 rfl (Nat.le_of_ble_eq_true rfl) dX0_placesToCut_50 ⟨Nat.le_of_ble_eq_true rfl, Nat.le_of_ble_eq_true rfl⟩ (fun r_4 h => ?_)
    refine lv_iconst (v := 2) hx hb dX0_placesToCut_53 (by decide) ?_
    refine lv_icmp_gt (tgt := 64) hx hb dX0_placesToCut_54 (by decide) (fun c => ?_) (fun c => ?_)
    · have h := h.1 c
      refine lv_iinc (v := (x5 + 1)) (lv' := [(5, .int (x5 + 1)), (6, .int s0), (0, .ref (ad 0)), (1, .int a1), (2, .int a2), (3, .long x3)]) hx hb dX0_placesToCut_64 hl (k := 5) rfl rfl (by decide) rfl (fun ls hl => ?_)
      refine lv_goto (tgt := 7) hx hb dX0_placesToCut_67 (by decide) ?_
      exact hr7 _ _ ls (lv_sub hl [2, 3, 4, 5, 0] rfl) h
    · have h := h.2 c
      refine lv_lload_n hx hb dX0_placesToCut_57 rfl (lv_at hl 4 rfl) ?_
      refine lv_lconst (v := 1) hx hb dX0_placesToCut_58 (by decide) ?_
      refine lv_iload hx hb dX0_placesToCut_59 (lv_at hl 5 rfl) ?_
      refine lv_lshl (v := (zShl 1 x5)) hx hb dX0_placesToCut_61 rfl ?_
      refine lv_lor hx hb dX0_placesToCut_62 ?_
      refine lv_topl (fun x3_5 ex3_5 => ?_)
      have h := h x3_5 ex3_5
      refine lv_lstore_n (lv' := [(3, .long x3_5), (6, .int s0), (0, .ref (ad 0)), (1, .int a1), (2, .int a2), (5, .int x5)]) hx hb dX0_placesToCut_63 rfl hl (by decide) rfl (fun ls hl => ?_)
      refine lv_iinc (v := (x5 + 1)) (lv' := [(5, .int (x5 + 1)), (3, .long x3_5), (6, .int s0), (0, .ref (ad 0)), (1, .int a1), (2, .int a2)]) hx hb dX0_placesToCut_64 hl (k := 5) rfl rfl (by decide) rfl (fun ls hl => ?_)
      refine lv_goto (tgt := 7) hx hb dX0_placesToCut_67 (by decide) ?_
      exact hr7 _ _ ls (lv_sub hl [3, 4, 5, 1, 0] rfl) h
set_option maxHeartbeats 4000000 in
set_option maxRecDepth 100000 in
theorem tX0_placesToCut_7 {p : Program} {l : Launch} {e : Env} {s : State} {m : MethodId} {args : Array Value} {below : List Frame} {meth : Method} {c : Code} {dC : Nat → ClassId} {dI : Nat → Nat → Nat} {ad : Nat → Nat} {cA : Nat → ClassId} {nW : Nat} {nH : Nat} {ff : Int32} {fd : Int32} {cols : Nat → Int64} {rows : Nat → Int64} {ends : Nat → Int64} {ecost : Nat → Int32} {ecnt : Nat → Int32} {tails : Nat → Int32} {longer : Nat → Int32} {a1 : Int32} {a2 : Int32} {Post : Int64 → Prop} (hC : zC p s m args meth c cX0_placesToCut wsX0_placesToCut (some .long) 7 RX0) (hK : va_K (dC, dI) vwCl (tX0 cA) s) (hP : va_P (dC, dI) vwCl (wX0 ad cA nW nH ff fd cols rows ends ecost ecnt tails longer) s.heap) : ∀ (n : Nat), ∀ (x3 : Int64) (x5 : Int32) (ls : Array Slot), lv_has ls 7 [(0, .ref (ad 0)), (1, .int a1), (2, .int a2), (3, .long x3), (5, .int x5)] → lX0_placesToCut_7 nW cols a1 a2 Post n x3 x5 → W p l e ({ frames := 2, cells := 0, slots := 0, locals := 42 } : Room) s m args below meth c s.heap [] 0 0 (MQ below (vp_Sl Post) args s 0 0 (fun _ => False)) (F0 m 7 ls []) := by
  have hC0 := hC
  obtain ⟨hx, hb, hr, hml, hown, hts, hlocks⟩ := hC
  intro n
  induction n with
  | zero =>
    intro x3 x5 ls hl h
    exact h.elim
  | succ n hr7 =>
    intro x3 x5 ls hl h
    have h : bX0_placesToCut_7 nW cols a1 a2 Post (lX0_placesToCut_7 nW cols a1 a2 Post n) x3 x5 := h
    unfold bX0_placesToCut_7 at h
    refine lv_iload hx hb dX0_placesToCut_7 (lv_at hl 4 rfl) ?_
    refine lv_iload_n hx hb dX0_placesToCut_9 rfl (lv_at hl 2 rfl) ?_
    refine lv_icmp_ge (tgt := 70) hx hb dX0_placesToCut_10 (by decide) (fun c => ?_) (fun c => ?_)
    · have h := h.1 c
      refine lv_lload_n hx hb dX0_placesToCut_70 rfl (lv_at hl 3 rfl) ?_
      exact W.lret (v := x3) hx hb hr (fun t ht hW => ⟨_, rfl, h, ht⟩) (fun q hq => absurd hq List.not_mem_nil) dX0_placesToCut_71
    · have h := h.2 c
      refine lv_aload_n hx hb dX0_placesToCut_13 rfl (lv_at hl 0 rfl) ?_
      refine va_get (D := (dC, dI)) (ci := 1) (v := .ref (ad 1)) (C := RX0) (T := TX0) (N := 11) hx hb hts in_X0_placesToCut hown hK hP 0 rfl rfl 2 (by decide) (hts (.fieldLink RX0 25 "SignCutter" "columns" "[J") (by decide +kernel)) (fun _ h9 => h9) rfl dX0_placesToCut_14 ?_
      refine lv_iload hx hb dX0_placesToCut_17 (lv_at hl 4 rfl) ?_
      refine lv_iconst (v := 1) hx hb dX0_placesToCut_19 (by decide) ?_
      refine lv_isub hx hb dX0_placesToCut_20 ?_
      refine z_lald hx hb hK hP 1 0 rfl rfl h dX0_placesToCut_21 (fun j_2 h => ?_)
      refine lv_aload_n hx hb dX0_placesToCut_22 rfl (lv_at hl 0 rfl) ?_
      refine va_get (D := (dC, dI)) (ci := 1) (v := .ref (ad 1)) (C := RX0) (T := TX0) (N := 11) hx hb hts in_X0_placesToCut hown hK hP 0 rfl rfl 2 (by decide) (hts (.fieldLink RX0 25 "SignCutter" "columns" "[J") (by decide +kernel)) (fun _ h9 => h9) rfl dX0_placesToCut_23 ?_
      refine lv_iload hx hb dX0_placesToCut_26 (lv_at hl 4 rfl) ?_
      refine z_lald hx hb hK hP 1 0 rfl rfl h dX0_placesToCut_28 (fun j_3 h => ?_)
      refine lv_lor hx hb dX0_placesToCut_29 ?_
      refine lv_lconst (v := 0) hx hb dX0_placesToCut_30 (by decide) ?_
      refine W.lcmp hx hb dX0_placesToCut_31 ?_
      refine lv_if_eq (tgt := 39) hx hb dX0_placesToCut_32 (by decide) (fun c => ?_) (fun c => ?_)
      · have h := h.1 c
        refine lv_iconst (v := 0) hx hb dX0_placesToCut_39 (by decide) ?_
        exact tX0_placesToCut_40 hC0 hK hP hr7 _ _ _ ls (lv_sub hl [0, 1, 2, 3, 4] rfl) h
      · have h := h.2 c
        refine lv_iconst (v := 1) hx hb dX0_placesToCut_35 (by decide) ?_
        refine lv_goto (tgt := 40) hx hb dX0_placesToCut_36 (by decide) ?_
        exact tX0_placesToCut_40 hC0 hK hP hr7 _ _ _ ls (lv_sub hl [0, 1, 2, 3, 4] rfl) h
set_option maxHeartbeats 4000000 in
set_option maxRecDepth 100000 in
theorem mX0_placesToCut (l : Launch) {dC : Nat → ClassId} {dI : Nat → Nat → Nat} {ad : Nat → Nat} {cA : Nat → ClassId} {nW : Nat} {nH : Nat} {ff : Int32} {fd : Int32} {cols : Nat → Int64} {rows : Nat → Int64} {ends : Nat → Int64} {ecost : Nat → Int32} {ecnt : Nat → Int32} {tails : Nat → Int32} {longer : Nat → Int32} {a1 : Int32} {a2 : Int32} {Post : Int64 → Prop} (h : wX0_placesToCut nW cols a1 a2 Post) : Met l yX0_placesToCut wsX0_placesToCut ({ frames := 2, cells := 0, slots := 0, locals := 42 } : Room) (zPc (dC, dI) vwCl (tX0 cA) (wX0 ad cA nW nH ff fd cols rows ends ecost ecnt tails longer) [.ref (ad 0), .int a1, .int a2]) (vp_Sl Post) 0 0 (fun _ => False) := by
  refine Met.ofW (cc := cX0_placesToCut) (maxL := 7) (ret := (some .long)) (by decide) rfl ?_
  intro p e s m args below meth c s₁ B hml hv
  obtain ⟨rfl, hP, hK⟩ := hv
  have hC : zC p s m [.ref (ad 0), .int a1, .int a2].toArray meth c cX0_placesToCut wsX0_placesToCut (some .long) 7 RX0 := ⟨B.exec, B.bytes, B.returns, hml, findClass_of_methodNamed B.named, atoms_spec (ws := wsX0_placesToCut) B.pre, B.notSynchronized⟩
  have hC0 := hC
  obtain ⟨hx, hb, hr, hml, hown, hts, hlocks⟩ := hC
  have hl := lv_entry ([.ref (ad 0), .int a1, .int a2]) (n := 7) (Nat.le_of_ble_eq_true rfl)
  rw [lg_entry_eq]
  generalize (lg_sl ([.ref (ad 0), .int a1, .int a2]) ++ List.replicate (7 - (lg_sl ([.ref (ad 0), .int a1, .int a2])).length) Slot.unset).toArray = ls at hl ⊢
  have hl : lv_has ls 7 [(0, .ref (ad 0)), (1, .int a1), (2, .int a2)] := hl
  unfold wX0_placesToCut at h
  refine lv_lconst (v := 0) hx hb dX0_placesToCut_0 (by decide) ?_
  refine lv_lstore_n (lv' := [(3, .long 0), (0, .ref (ad 0)), (1, .int a1), (2, .int a2)]) hx hb dX0_placesToCut_1 rfl hl (by decide) rfl (fun ls hl => ?_)
  refine lv_iload_n hx hb dX0_placesToCut_2 rfl (lv_at hl 2 rfl) ?_
  refine lv_iconst (v := 1) hx hb dX0_placesToCut_3 (by decide) ?_
  refine lv_iadd hx hb dX0_placesToCut_4 ?_
  refine lv_topi (fun x5_1 ex5_1 => ?_)
  have h := h x5_1 ex5_1
  refine lv_istore (lv' := [(5, .int x5_1), (3, .long 0), (0, .ref (ad 0)), (1, .int a1), (2, .int a2)]) hx hb dX0_placesToCut_5 hl (by decide) rfl (fun ls hl => ?_)
  obtain ⟨n_6, h⟩ := h
  exact tX0_placesToCut_7 hC0 hK hP n_6 _ _ ls (lv_sub hl [2, 3, 4, 1, 0] rfl) h
theorem in_X0_isFound : ∀ w ∈ wsX00, w ∈ wsX0_isFound := by decide +kernel
set_option maxHeartbeats 4000000 in
set_option maxRecDepth 100000 in
theorem mX0_isFound (l : Launch) {dC : Nat → ClassId} {dI : Nat → Nat → Nat} {ad : Nat → Nat} {cA : Nat → ClassId} {nW : Nat} {nH : Nat} {ff : Int32} {fd : Int32} {cols : Nat → Int64} {rows : Nat → Int64} {ends : Nat → Int64} {ecost : Nat → Int32} {ecnt : Nat → Int32} {tails : Nat → Int32} {longer : Nat → Int32} {a1 : Int32} {Post : Int32 → Prop} (h : wX0_isFound fd a1 Post) : Met l yX0_isFound wsX0_isFound ({ frames := 0, cells := 0, slots := 0, locals := 0 } : Room) (zPc (dC, dI) vwCl (tX0 cA) (wX0 ad cA nW nH ff fd cols rows ends ecost ecnt tails longer) [.ref (ad 0), .int a1]) (vp_Si Post) 0 0 (fun _ => False) := by
  refine Met.ofW (cc := cX0_isFound) (maxL := 2) (ret := (some .boolean)) (by decide) rfl ?_
  intro p e s m args below meth c s₁ B hml hv
  obtain ⟨rfl, hP, hK⟩ := hv
  have hC : zC p s m [.ref (ad 0), .int a1].toArray meth c cX0_isFound wsX0_isFound (some .boolean) 2 RX0 := ⟨B.exec, B.bytes, B.returns, hml, findClass_of_methodNamed B.named, atoms_spec (ws := wsX0_isFound) B.pre, B.notSynchronized⟩
  have hC0 := hC
  obtain ⟨hx, hb, hr, hml, hown, hts, hlocks⟩ := hC
  have hl := lv_entry ([.ref (ad 0), .int a1]) (n := 2) (Nat.le_of_ble_eq_true rfl)
  rw [lg_entry_eq]
  generalize (lg_sl ([.ref (ad 0), .int a1]) ++ List.replicate (2 - (lg_sl ([.ref (ad 0), .int a1])).length) Slot.unset).toArray = ls at hl ⊢
  have hl : lv_has ls 2 [(0, .ref (ad 0)), (1, .int a1)] := hl
  unfold wX0_isFound at h
  refine lv_iload_n hx hb dX0_isFound_0 rfl (lv_at hl 1 rfl) ?_
  refine lv_if_lt (tgt := 16) hx hb dX0_isFound_1 (by decide) (fun c => ?_) (fun c => ?_)
  · have h := h.1 c
    refine lv_iconst (v := 0) hx hb dX0_isFound_16 (by decide) ?_
    exact W.zret (v := 0) hx hb hr rfl (fun t ht hW => ⟨_, rfl, h, ht⟩) (fun q hq => absurd hq List.not_mem_nil) dX0_isFound_17
  · have h := h.2 c
    refine lv_iload_n hx hb dX0_isFound_4 rfl (lv_at hl 1 rfl) ?_
    refine lv_aload_n hx hb dX0_isFound_5 rfl (lv_at hl 0 rfl) ?_
    refine va_get (D := (dC, dI)) (ci := 1) (v := .int fd) (C := RX0) (T := TX0) (N := 11) hx hb hts in_X0_isFound hown hK hP 0 rfl rfl 8 (by decide) (hts (.fieldLink RX0 61 "SignCutter" "found" "I") (by decide +kernel)) (fun _ h9 => h9) rfl dX0_isFound_6 ?_
    refine lv_icmp_ge (tgt := 16) hx hb dX0_isFound_9 (by decide) (fun c => ?_) (fun c => ?_)
    · have h := h.1 c
      refine lv_iconst (v := 0) hx hb dX0_isFound_16 (by decide) ?_
      exact W.zret (v := 0) hx hb hr rfl (fun t ht hW => ⟨_, rfl, h, ht⟩) (fun q hq => absurd hq List.not_mem_nil) dX0_isFound_17
    · have h := h.2 c
      refine lv_iconst (v := 1) hx hb dX0_isFound_12 (by decide) ?_
      refine lv_goto (tgt := 17) hx hb dX0_isFound_13 (by decide) ?_
      exact W.zret (v := 1) hx hb hr rfl (fun t ht hW => ⟨_, rfl, h, ht⟩) (fun q hq => absurd hq List.not_mem_nil) dX0_isFound_17
theorem in_X0_way : ∀ w ∈ wsX00, w ∈ wsX0_way := by decide +kernel
set_option maxHeartbeats 4000000 in
set_option maxRecDepth 100000 in
theorem tX0_way_35 {p : Program} {l : Launch} {e : Env} {s : State} {m : MethodId} {args : Array Value} {below : List Frame} {meth : Method} {c : Code} {dC : Nat → ClassId} {dI : Nat → Nat → Nat} {ad : Nat → Nat} {cA : Nat → ClassId} {nW : Nat} {nH : Nat} {ff : Int32} {fd : Int32} {cols : Nat → Int64} {rows : Nat → Int64} {ends : Nat → Int64} {ecost : Nat → Int32} {ecnt : Nat → Int32} {tails : Nat → Int32} {longer : Nat → Int32} {a1 : Int32} {a2 : Int32} {Post : Int32 → Prop} (hC : zC p s m args meth c cX0_way wsX0_way (some .int) 7 RX0) (hK : va_K (dC, dI) vwCl (tX0 cA) s) (hP : va_P (dC, dI) vwCl (wX0 ad cA nW nH ff fd cols rows ends ecost ecnt tails longer) s.heap) : ∀ (n : Nat), ∀ (x3 : Int64) (x5 : Int32) (x6 : Int32) (ls : Array Slot), lv_has ls 7 [(0, .ref (ad 0)), (1, .int a1), (2, .int a2), (3, .long x3), (5, .int x5), (6, .int x6)] → lX0_way_35 nW ff fd ends a1 a2 Post n x3 x5 x6 → W p l e ({ frames := 1, cells := 0, slots := 0, locals := 22 } : Room) s m args below meth c s.heap [] 0 0 (MQ below (vp_Si Post) args s 0 0 (fun _ => False)) (F0 m 35 ls []) := by
  have hC0 := hC
  obtain ⟨hx, hb, hr, hml, hown, hts, hlocks⟩ := hC
  intro n
  induction n with
  | zero =>
    intro x3 x5 x6 ls hl h
    exact h.elim
  | succ n hr35 =>
    intro x3 x5 x6 ls hl h
    have h : bX0_way_35 nW ff fd ends a1 a2 Post (lX0_way_35 nW ff fd ends a1 a2 Post n) x3 x5 x6 := h
    unfold bX0_way_35 at h
    refine lv_iload hx hb dX0_way_35 (lv_at hl 5 rfl) ?_
    refine lv_aload_n hx hb dX0_way_37 rfl (lv_at hl 0 rfl) ?_
    refine va_get (D := (dC, dI)) (ci := 1) (v := .int (nI nW)) (C := RX0) (T := TX0) (N := 11) hx hb hts in_X0_way hown hK hP 0 rfl rfl 0 (by decide) (hts (.fieldLink RX0 18 "SignCutter" "width" "I") (by decide +kernel)) (fun _ h9 => h9) rfl dX0_way_38 ?_
    refine lv_icmp_gt (tgt := 71) hx hb dX0_way_41 (by decide) (fun c => ?_) (fun c => ?_)
    · have h := h.1 c
      refine lv_iconst (v := (-1)) hx hb dX0_way_71 (by decide) ?_
      exact W.iret (v := (-1)) hx hb hr (fun t ht hW => ⟨_, rfl, h, ht⟩) (fun q hq => absurd hq List.not_mem_nil) dX0_way_72
    · have h := h.2 c
      refine lv_lload_n hx hb dX0_way_44 rfl (lv_at hl 3 rfl) ?_
      refine lv_iload hx hb dX0_way_45 (lv_at hl 5 rfl) ?_
      refine z_cSi (As := [.long x3, .int x6]) (rest := []) ⟨hx, hb, hml, hown, hts⟩ (mX0_has l h) (va_cwS 2 hts gX0_way_X0_has rfl rfl rfl (by decide +kernel) ⟨Nat.le_of_ble_eq_true rfl, Nat.le_of_ble_eq_true rfl⟩) rfl hl.1 rfl (Nat.le_of_ble_eq_true rfl) dX0_way_47 ⟨Nat.le_of_ble_eq_true rfl, Nat.le_of_ble_eq_true rfl⟩ (fun r_5 h => ?_)
      refine lv_if_eq (tgt := 65) hx hb dX0_way_50 (by decide) (fun c => ?_) (fun c => ?_)
      · have h := h.1 c
        refine lv_iinc (v := (x6 + 1)) (lv' := [(6, .int (x6 + 1)), (0, .ref (ad 0)), (1, .int a1), (2, .int a2), (3, .long x3), (5, .int x5)]) hx hb dX0_way_65 hl (k := 5) rfl rfl (by decide) rfl (fun ls hl => ?_)
        refine lv_goto (tgt := 35) hx hb dX0_way_68 (by decide) ?_
        exact hr35 _ _ _ ls (lv_sub hl [1, 2, 3, 4, 5, 0] rfl) h
      · have h := h.2 c
        refine lv_iload hx hb dX0_way_53 (lv_at hl 4 rfl) ?_
        refine lv_iload_n hx hb dX0_way_55 rfl (lv_at hl 2 rfl) ?_
        refine lv_icmp_ne (tgt := 62) hx hb dX0_way_56 (by decide) (fun c => ?_) (fun c => ?_)
        · have h := h.2 c
          refine lv_iinc (v := (x5 + 1)) (lv' := [(5, .int (x5 + 1)), (0, .ref (ad 0)), (1, .int a1), (2, .int a2), (3, .long x3), (6, .int x6)]) hx hb dX0_way_62 hl (k := 4) rfl rfl (by decide) rfl (fun ls hl => ?_)
          refine lv_iinc (v := (x6 + 1)) (lv' := [(6, .int (x6 + 1)), (5, .int (x5 + 1)), (0, .ref (ad 0)), (1, .int a1), (2, .int a2), (3, .long x3)]) hx hb dX0_way_65 hl (k := 5) rfl rfl (by decide) rfl (fun ls hl => ?_)
          refine lv_goto (tgt := 35) hx hb dX0_way_68 (by decide) ?_
          exact hr35 _ _ _ ls (lv_sub hl [2, 3, 4, 5, 1, 0] rfl) h
        · have h := h.1 c
          refine lv_iload hx hb dX0_way_59 (lv_at hl 5 rfl) ?_
          exact W.iret (v := x6) hx hb hr (fun t ht hW => ⟨_, rfl, h, ht⟩) (fun q hq => absurd hq List.not_mem_nil) dX0_way_61
set_option maxHeartbeats 4000000 in
set_option maxRecDepth 100000 in
theorem mX0_way (l : Launch) {dC : Nat → ClassId} {dI : Nat → Nat → Nat} {ad : Nat → Nat} {cA : Nat → ClassId} {nW : Nat} {nH : Nat} {ff : Int32} {fd : Int32} {cols : Nat → Int64} {rows : Nat → Int64} {ends : Nat → Int64} {ecost : Nat → Int32} {ecnt : Nat → Int32} {tails : Nat → Int32} {longer : Nat → Int32} {a1 : Int32} {a2 : Int32} {Post : Int32 → Prop} (h : wX0_way nW ff fd ends a1 a2 Post) : Met l yX0_way wsX0_way ({ frames := 1, cells := 0, slots := 0, locals := 22 } : Room) (zPc (dC, dI) vwCl (tX0 cA) (wX0 ad cA nW nH ff fd cols rows ends ecost ecnt tails longer) [.ref (ad 0), .int a1, .int a2]) (vp_Si Post) 0 0 (fun _ => False) := by
  refine Met.ofW (cc := cX0_way) (maxL := 7) (ret := (some .int)) (by decide) rfl ?_
  intro p e s m args below meth c s₁ B hml hv
  obtain ⟨rfl, hP, hK⟩ := hv
  have hC : zC p s m [.ref (ad 0), .int a1, .int a2].toArray meth c cX0_way wsX0_way (some .int) 7 RX0 := ⟨B.exec, B.bytes, B.returns, hml, findClass_of_methodNamed B.named, atoms_spec (ws := wsX0_way) B.pre, B.notSynchronized⟩
  have hC0 := hC
  obtain ⟨hx, hb, hr, hml, hown, hts, hlocks⟩ := hC
  have hl := lv_entry ([.ref (ad 0), .int a1, .int a2]) (n := 7) (Nat.le_of_ble_eq_true rfl)
  rw [lg_entry_eq]
  generalize (lg_sl ([.ref (ad 0), .int a1, .int a2]) ++ List.replicate (7 - (lg_sl ([.ref (ad 0), .int a1, .int a2])).length) Slot.unset).toArray = ls at hl ⊢
  have hl : lv_has ls 7 [(0, .ref (ad 0)), (1, .int a1), (2, .int a2)] := hl
  unfold wX0_way at h
  refine lv_aload_n hx hb dX0_way_0 rfl (lv_at hl 0 rfl) ?_
  refine lv_iload_n hx hb dX0_way_1 rfl (lv_at hl 1 rfl) ?_
  refine z_cVi (ci := 1) (As := [.int a1]) (rest := []) ⟨hx, hb, hml, hown, hts⟩ (mX0_isFound l h) (cwV 1 hts gX0_way_X0_isFound rfl rfl rfl (by decide +kernel) ⟨Nat.le_of_ble_eq_true rfl, Nat.le_of_ble_eq_true rfl⟩) hK hP 0 rfl rfl rfl rfl hl.1 rfl (Nat.le_of_ble_eq_true rfl) dX0_way_2 ⟨Nat.le_of_ble_eq_true rfl, Nat.le_of_ble_eq_true rfl⟩ (fun r_1 h => ?_)
  refine lv_if_eq (tgt := 12) hx hb dX0_way_5 (by decide) (fun c => ?_) (fun c => ?_)
  · have h := h.1 c
    refine lv_iconst (v := (-1)) hx hb dX0_way_12 (by decide) ?_
    exact W.iret (v := (-1)) hx hb hr (fun t ht hW => ⟨_, rfl, h, ht⟩) (fun q hq => absurd hq List.not_mem_nil) dX0_way_13
  · have h := h.2 c
    refine lv_iload_n hx hb dX0_way_8 rfl (lv_at hl 2 rfl) ?_
    refine lv_if_ge (tgt := 14) hx hb dX0_way_9 (by decide) (fun c => ?_) (fun c => ?_)
    · have h := h.1 c
      refine lv_aload_n hx hb dX0_way_14 rfl (lv_at hl 0 rfl) ?_
      refine va_get (D := (dC, dI)) (ci := 1) (v := .ref (ad 3)) (C := RX0) (T := TX0) (N := 11) hx hb hts in_X0_way hown hK hP 0 rfl rfl 4 (by decide) (hts (.fieldLink RX0 32 "SignCutter" "ends" "[J") (by decide +kernel)) (fun _ h9 => h9) rfl dX0_way_15 ?_
      refine lv_aload_n hx hb dX0_way_18 rfl (lv_at hl 0 rfl) ?_
      refine va_get (D := (dC, dI)) (ci := 1) (v := .int ff) (C := RX0) (T := TX0) (N := 11) hx hb hts in_X0_way hown hK hP 0 rfl rfl 7 (by decide) (hts (.fieldLink RX0 75 "SignCutter" "foundFrom" "I") (by decide +kernel)) (fun _ h9 => h9) rfl dX0_way_19 ?_
      refine z_cSi (As := [.int ff]) (rest := [.ref (ad 3)]) ⟨hx, hb, hml, hown, hts⟩ (mX0_shelf l h) (va_cwS 1 hts gX0_way_X0_shelf rfl rfl rfl (by decide +kernel) ⟨Nat.le_of_ble_eq_true rfl, Nat.le_of_ble_eq_true rfl⟩) rfl hl.1 rfl (Nat.le_of_ble_eq_true rfl) dX0_way_22 ⟨Nat.le_of_ble_eq_true rfl, Nat.le_of_ble_eq_true rfl⟩ (fun r_2 h => ?_)
      refine lv_iload_n hx hb dX0_way_25 rfl (lv_at hl 1 rfl) ?_
      refine lv_iadd hx hb dX0_way_26 ?_
      refine z_lald hx hb hK hP 3 2 rfl rfl h dX0_way_27 (fun j_3 h => ?_)
      refine lv_topl (fun x3_4 ex3_4 => ?_)
      have h := h x3_4 ex3_4
      refine lv_lstore_n (lv' := [(3, .long x3_4), (0, .ref (ad 0)), (1, .int a1), (2, .int a2)]) hx hb dX0_way_28 rfl hl (by decide) rfl (fun ls hl => ?_)
      refine lv_iconst (v := 0) hx hb dX0_way_29 (by decide) ?_
      refine lv_istore (lv' := [(5, .int 0), (3, .long x3_4), (0, .ref (ad 0)), (1, .int a1), (2, .int a2)]) hx hb dX0_way_30 hl (by decide) rfl (fun ls hl => ?_)
      refine lv_iconst (v := 0) hx hb dX0_way_32 (by decide) ?_
      refine lv_istore (lv' := [(6, .int 0), (5, .int 0), (3, .long x3_4), (0, .ref (ad 0)), (1, .int a1), (2, .int a2)]) hx hb dX0_way_33 hl (by decide) rfl (fun ls hl => ?_)
      obtain ⟨n_6, h⟩ := h
      exact tX0_way_35 hC0 hK hP n_6 _ _ _ ls (lv_sub hl [3, 4, 5, 2, 1, 0] rfl) h
    · have h := h.2 c
      refine lv_iconst (v := (-1)) hx hb dX0_way_12 (by decide) ?_
      exact W.iret (v := (-1)) hx hb hr (fun t ht hW => ⟨_, rfl, h, ht⟩) (fun q hq => absurd hq List.not_mem_nil) dX0_way_13
theorem in_X0_cost : ∀ w ∈ wsX00, w ∈ wsX0_cost := by decide +kernel
set_option maxHeartbeats 4000000 in
set_option maxRecDepth 100000 in
theorem mX0_cost (l : Launch) {dC : Nat → ClassId} {dI : Nat → Nat → Nat} {ad : Nat → Nat} {cA : Nat → ClassId} {nW : Nat} {nH : Nat} {ff : Int32} {fd : Int32} {cols : Nat → Int64} {rows : Nat → Int64} {ends : Nat → Int64} {ecost : Nat → Int32} {ecnt : Nat → Int32} {tails : Nat → Int32} {longer : Nat → Int32} {a1 : Int32} {Post : Int64 → Prop} (h : wX0_cost nW ff fd ecost a1 Post) : Met l yX0_cost wsX0_cost ({ frames := 1, cells := 0, slots := 0, locals := 21 } : Room) (zPc (dC, dI) vwCl (tX0 cA) (wX0 ad cA nW nH ff fd cols rows ends ecost ecnt tails longer) [.ref (ad 0), .int a1]) (vp_Sl Post) 0 0 (fun _ => False) := by
  refine Met.ofW (cc := cX0_cost) (maxL := 2) (ret := (some .long)) (by decide) rfl ?_
  intro p e s m args below meth c s₁ B hml hv
  obtain ⟨rfl, hP, hK⟩ := hv
  have hC : zC p s m [.ref (ad 0), .int a1].toArray meth c cX0_cost wsX0_cost (some .long) 2 RX0 := ⟨B.exec, B.bytes, B.returns, hml, findClass_of_methodNamed B.named, atoms_spec (ws := wsX0_cost) B.pre, B.notSynchronized⟩
  have hC0 := hC
  obtain ⟨hx, hb, hr, hml, hown, hts, hlocks⟩ := hC
  have hl := lv_entry ([.ref (ad 0), .int a1]) (n := 2) (Nat.le_of_ble_eq_true rfl)
  rw [lg_entry_eq]
  generalize (lg_sl ([.ref (ad 0), .int a1]) ++ List.replicate (2 - (lg_sl ([.ref (ad 0), .int a1])).length) Slot.unset).toArray = ls at hl ⊢
  have hl : lv_has ls 2 [(0, .ref (ad 0)), (1, .int a1)] := hl
  unfold wX0_cost at h
  refine lv_aload_n hx hb dX0_cost_0 rfl (lv_at hl 0 rfl) ?_
  refine lv_iload_n hx hb dX0_cost_1 rfl (lv_at hl 1 rfl) ?_
  refine z_cVi (ci := 1) (As := [.int a1]) (rest := []) ⟨hx, hb, hml, hown, hts⟩ (mX0_isFound l h) (cwV 1 hts gX0_cost_X0_isFound rfl rfl rfl (by decide +kernel) ⟨Nat.le_of_ble_eq_true rfl, Nat.le_of_ble_eq_true rfl⟩) hK hP 0 rfl rfl rfl rfl hl.1 rfl (Nat.le_of_ble_eq_true rfl) dX0_cost_2 ⟨Nat.le_of_ble_eq_true rfl, Nat.le_of_ble_eq_true rfl⟩ (fun r_1 h => ?_)
  refine lv_if_eq (tgt := 26) hx hb dX0_cost_5 (by decide) (fun c => ?_) (fun c => ?_)
  · have h := h.1 c
    refine lv_ldc2 hx hb hown (hts (.constantLong RX0 55 (-1)) (by decide +kernel)) dX0_cost_26 ?_
    exact W.lret (v := (-1)) hx hb hr (fun t ht hW => ⟨_, rfl, h, ht⟩) (fun q hq => absurd hq List.not_mem_nil) dX0_cost_29
  · have h := h.2 c
    refine lv_aload_n hx hb dX0_cost_8 rfl (lv_at hl 0 rfl) ?_
    refine va_get (D := (dC, dI)) (ci := 1) (v := .ref (ad 4)) (C := RX0) (T := TX0) (N := 11) hx hb hts in_X0_cost hown hK hP 0 rfl rfl 5 (by decide) (hts (.fieldLink RX0 35 "SignCutter" "endCosts" "[I") (by decide +kernel)) (fun _ h9 => h9) rfl dX0_cost_9 ?_
    refine lv_aload_n hx hb dX0_cost_12 rfl (lv_at hl 0 rfl) ?_
    refine va_get (D := (dC, dI)) (ci := 1) (v := .int ff) (C := RX0) (T := TX0) (N := 11) hx hb hts in_X0_cost hown hK hP 0 rfl rfl 7 (by decide) (hts (.fieldLink RX0 75 "SignCutter" "foundFrom" "I") (by decide +kernel)) (fun _ h9 => h9) rfl dX0_cost_13 ?_
    refine z_cSi (As := [.int ff]) (rest := [.ref (ad 4)]) ⟨hx, hb, hml, hown, hts⟩ (mX0_shelf l h) (va_cwS 1 hts gX0_cost_X0_shelf rfl rfl rfl (by decide +kernel) ⟨Nat.le_of_ble_eq_true rfl, Nat.le_of_ble_eq_true rfl⟩) rfl hl.1 rfl (Nat.le_of_ble_eq_true rfl) dX0_cost_16 ⟨Nat.le_of_ble_eq_true rfl, Nat.le_of_ble_eq_true rfl⟩ (fun r_2 h => ?_)
    refine lv_iload_n hx hb dX0_cost_19 rfl (lv_at hl 1 rfl) ?_
    refine lv_iadd hx hb dX0_cost_20 ?_
    refine z_iald hx hb hK hP 4 3 rfl rfl h dX0_cost_21 (fun j_3 h => ?_)
    refine lv_i2l (v := (Int32.toInt64 (ecost j_3))) hx hb dX0_cost_22 rfl ?_
    refine lv_goto (tgt := 29) hx hb dX0_cost_23 (by decide) ?_
    exact W.lret (v := (Int32.toInt64 (ecost j_3))) hx hb hr (fun t ht hW => ⟨_, rfl, h, ht⟩) (fun q hq => absurd hq List.not_mem_nil) dX0_cost_29
theorem in_X0_signs : ∀ w ∈ wsX00, w ∈ wsX0_signs := by decide +kernel
set_option maxHeartbeats 4000000 in
set_option maxRecDepth 100000 in
theorem mX0_signs (l : Launch) {dC : Nat → ClassId} {dI : Nat → Nat → Nat} {ad : Nat → Nat} {cA : Nat → ClassId} {nW : Nat} {nH : Nat} {ff : Int32} {fd : Int32} {cols : Nat → Int64} {rows : Nat → Int64} {ends : Nat → Int64} {ecost : Nat → Int32} {ecnt : Nat → Int32} {tails : Nat → Int32} {longer : Nat → Int32} {a1 : Int32} {Post : Int32 → Prop} (h : wX0_signs nW ff fd ends a1 Post) : Met l yX0_signs wsX0_signs ({ frames := 1, cells := 0, slots := 0, locals := 21 } : Room) (zPc (dC, dI) vwCl (tX0 cA) (wX0 ad cA nW nH ff fd cols rows ends ecost ecnt tails longer) [.ref (ad 0), .int a1]) (vp_Si Post) 0 0 (fun _ => False) := by
  refine Met.ofW (cc := cX0_signs) (maxL := 2) (ret := (some .int)) (by decide) rfl ?_
  intro p e s m args below meth c s₁ B hml hv
  obtain ⟨rfl, hP, hK⟩ := hv
  have hC : zC p s m [.ref (ad 0), .int a1].toArray meth c cX0_signs wsX0_signs (some .int) 2 RX0 := ⟨B.exec, B.bytes, B.returns, hml, findClass_of_methodNamed B.named, atoms_spec (ws := wsX0_signs) B.pre, B.notSynchronized⟩
  have hC0 := hC
  obtain ⟨hx, hb, hr, hml, hown, hts, hlocks⟩ := hC
  have hl := lv_entry ([.ref (ad 0), .int a1]) (n := 2) (Nat.le_of_ble_eq_true rfl)
  rw [lg_entry_eq]
  generalize (lg_sl ([.ref (ad 0), .int a1]) ++ List.replicate (2 - (lg_sl ([.ref (ad 0), .int a1])).length) Slot.unset).toArray = ls at hl ⊢
  have hl : lv_has ls 2 [(0, .ref (ad 0)), (1, .int a1)] := hl
  unfold wX0_signs at h
  refine lv_aload_n hx hb dX0_signs_0 rfl (lv_at hl 0 rfl) ?_
  refine lv_iload_n hx hb dX0_signs_1 rfl (lv_at hl 1 rfl) ?_
  refine z_cVi (ci := 1) (As := [.int a1]) (rest := []) ⟨hx, hb, hml, hown, hts⟩ (mX0_isFound l h) (cwV 1 hts gX0_signs_X0_isFound rfl rfl rfl (by decide +kernel) ⟨Nat.le_of_ble_eq_true rfl, Nat.le_of_ble_eq_true rfl⟩) hK hP 0 rfl rfl rfl rfl hl.1 rfl (Nat.le_of_ble_eq_true rfl) dX0_signs_2 ⟨Nat.le_of_ble_eq_true rfl, Nat.le_of_ble_eq_true rfl⟩ (fun r_1 h => ?_)
  refine lv_if_eq (tgt := 30) hx hb dX0_signs_5 (by decide) (fun c => ?_) (fun c => ?_)
  · have h := h.1 c
    refine lv_iconst (v := (-1)) hx hb dX0_signs_30 (by decide) ?_
    exact W.iret (v := (-1)) hx hb hr (fun t ht hW => ⟨_, rfl, h, ht⟩) (fun q hq => absurd hq List.not_mem_nil) dX0_signs_31
  · have h := h.2 c
    refine lv_aload_n hx hb dX0_signs_8 rfl (lv_at hl 0 rfl) ?_
    refine va_get (D := (dC, dI)) (ci := 1) (v := .ref (ad 3)) (C := RX0) (T := TX0) (N := 11) hx hb hts in_X0_signs hown hK hP 0 rfl rfl 4 (by decide) (hts (.fieldLink RX0 32 "SignCutter" "ends" "[J") (by decide +kernel)) (fun _ h9 => h9) rfl dX0_signs_9 ?_
    refine lv_aload_n hx hb dX0_signs_12 rfl (lv_at hl 0 rfl) ?_
    refine va_get (D := (dC, dI)) (ci := 1) (v := .int ff) (C := RX0) (T := TX0) (N := 11) hx hb hts in_X0_signs hown hK hP 0 rfl rfl 7 (by decide) (hts (.fieldLink RX0 75 "SignCutter" "foundFrom" "I") (by decide +kernel)) (fun _ h9 => h9) rfl dX0_signs_13 ?_
    refine z_cSi (As := [.int ff]) (rest := [.ref (ad 3)]) ⟨hx, hb, hml, hown, hts⟩ (mX0_shelf l h) (va_cwS 1 hts gX0_signs_X0_shelf rfl rfl rfl (by decide +kernel) ⟨Nat.le_of_ble_eq_true rfl, Nat.le_of_ble_eq_true rfl⟩) rfl hl.1 rfl (Nat.le_of_ble_eq_true rfl) dX0_signs_16 ⟨Nat.le_of_ble_eq_true rfl, Nat.le_of_ble_eq_true rfl⟩ (fun r_2 h => ?_)
    refine lv_iload_n hx hb dX0_signs_19 rfl (lv_at hl 1 rfl) ?_
    refine lv_iadd hx hb dX0_signs_20 ?_
    refine z_lald hx hb hK hP 3 2 rfl rfl h dX0_signs_21 (fun j_3 h => ?_)
    refine z_cSi (As := [.long (ends j_3)]) (rest := []) ⟨hx, hb, hml, hown, hts⟩ (mJ13_bitCount_95d88 l h) (va_cwS 1 hts gX0_signs_J13_bitCount_95d88 rfl rfl rfl (by decide +kernel) ⟨Nat.le_of_ble_eq_true rfl, Nat.le_of_ble_eq_true rfl⟩) rfl hl.1 rfl (Nat.le_of_ble_eq_true rfl) dX0_signs_22 ⟨Nat.le_of_ble_eq_true rfl, Nat.le_of_ble_eq_true rfl⟩ (fun r_4 h => ?_)
    refine lv_iconst (v := 1) hx hb dX0_signs_25 (by decide) ?_
    refine lv_isub hx hb dX0_signs_26 ?_
    refine lv_goto (tgt := 31) hx hb dX0_signs_27 (by decide) ?_
    exact W.iret (v := (r_4 - 1)) hx hb hr (fun t ht hW => ⟨_, rfl, h, ht⟩) (fun q hq => absurd hq List.not_mem_nil) dX0_signs_31
end
