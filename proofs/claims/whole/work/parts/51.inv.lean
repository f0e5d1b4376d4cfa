/-! ===== what the two objects hold alike, and what each call does to it ===== -/
def Inv0 (nW nH : Nat) (d : Nat → Nat → Bool) (l : Sh (List Nat)) (ff fd : Int32) (cols rows ends : Nat → Int64) (ecost : Nat → Int32) : Prop := hld0 nW nH d cols rows ∧ rf0 nW l ff fd ends ecost
def Inv1 (nW nH : Nat) (d : Nat → Nat → Bool) (l : Sh (List Nat)) (fn : Int32) (dk : Nat → Int32) (pr : Nat → Int64) (ln wy : Nat → Int32) : Prop := hld1 nW nH d dk ∧ rf1 l fn pr ln wy
def aCut (nW nH : Nat) (d : Nat → Nat → Bool) (a : Int32) : Int32 := if a < 1 ∨ ¬ a ≤ 40 then -1 else if rM nW nH d = 0 then 0 else nI (lsK nW nH d a.toNatClampNeg).1
def lCut (nW nH : Nat) (d : Nat → Nat → Bool) (l : Sh (List Nat)) (a : Int32) : Sh (List Nat) := if a < 1 ∨ ¬ a ≤ 40 then l else if rM nW nH d = 0 then (0, l.2) else lsK nW nH d a.toNatClampNeg
theorem hasD_of {nW nH : Nat} {d : Nat → Nat → Bool} (h : ¬ rM nW nH d = 0) : hasD nW nH d := by
  refine Classical.byContradiction (fun q => h (rM_pos.mpr (fun x hx => ?_)))
  cases e : cD nH d x with
  | false => rfl
  | true => exact absurd ⟨x, hx, e⟩ q
theorem cut_in {a : Int32} {k : Nat} (h1 : 1 ≤ k) (h2 : k ≤ 40) (e : a = nI k) : ¬ (a < 1 ∨ ¬ a ≤ 40) := by
  subst e
  rintro (q | q)
  · have : nI k < nI 1 := q
    rw [nI_ltI (by omega) (by decide)] at this
    omega
  · exact q (show nI k ≤ nI 40 from nI_le h2 (by decide))
theorem cut_ex {a : Int32} (h : ¬ (a < 1 ∨ ¬ a ≤ 40)) : ∃ k : Nat, 1 ≤ k ∧ k ≤ 40 ∧ a = nI k := by
  have h1 : ¬ a < 1 := fun q => h (Or.inl q)
  have h2 : a ≤ 40 := Classical.byContradiction (fun q => h (Or.inr q))
  have h3 : ¬ a < 0 := by
    rw [Int32.lt_iff_toInt_lt] at h1 ⊢
    have e1 : (1 : Int32).toInt = 1 := rfl
    have e0 : (0 : Int32).toInt = 0 := rfl
    omega
  obtain ⟨k, hk, rfl⟩ := nI_of h3
  refine ⟨k, ?_, (nI_leI hk (by decide)).mp (show nI k ≤ nI 40 from h2), rfl⟩
  have : ¬ nI k < nI 1 := h1
  rw [nI_ltI hk (by decide)] at this
  omega
theorem okL_cut {nW nH : Nat} {d : Nat → Nat → Bool} {l : Sh (List Nat)} (hs : szs nW nH) (h : okL nW l) (a : Int32) : okL nW (lCut nW nH d l a) := by
  unfold lCut
  by_cases c1 : a < 1 ∨ ¬ a ≤ 40
  · rw [if_pos c1]
    exact h
  · rw [if_neg c1]
    by_cases c2 : rM nW nH d = 0
    · rw [if_pos c2]
      exact ⟨Nat.zero_le _, fun w hw => absurd hw (Nat.not_lt_zero w)⟩
    · rw [if_neg c2]
      obtain ⟨k, k1, k2, rfl⟩ := cut_ex c1
      rw [nI_clamp (by omega)]
      exact lsK_ok hs (hasD_of c2) k2
theorem inv0_cut {nW nH : Nat} {d : Nat → Nat → Bool} {l : Sh (List Nat)} {cols rows ends : Nat → Int64} {ff fd : Int32} {ecost ecnt : Nat → Int32} {a : Int32} (hs : szs nW nH) (h : Inv0 nW nH d l ff fd cols rows ends ecost) : wX0_cut nW nH cols rows ff fd ends ecost ecnt a (fun r ff' fd' ends' ecost' _ => r = aCut nW nH d a ∧ Inv0 nW nH d (lCut nW nH d l a) ff' fd' cols rows ends' ecost') := by
  refine ok0_cut hs h.1 (fun c => ?_) (fun c1 c2 c3 => ?_) (fun k k1 k2 e c3 ends' ecost' ecnt' hr => ?_)
  · unfold aCut lCut
    rw [if_pos c, if_pos c]
    exact ⟨rfl, h⟩
  · have c : ¬ (a < 1 ∨ ¬ a ≤ 40) := fun q => q.elim c1 (fun q => q c2)
    unfold aCut lCut
    rw [if_neg c, if_neg c, if_pos c3, if_pos c3]
    exact ⟨rfl, h.1, rfl, fun q => absurd q (Nat.lt_irrefl 0)⟩
  · have c := cut_in k1 k2 e
    unfold aCut lCut
    rw [if_neg c, if_neg c, if_neg c3, if_neg c3, e, nI_clamp (by omega)]
    obtain ⟨r1, r2⟩ := lsK_0 hs (hasD_of c3) k1 k2 hr
    exact ⟨by rw [r2], h.1, r1⟩
theorem inv1_cut {nW nH : Nat} {d : Nat → Nat → Bool} {l : Sh (List Nat)} {th fn wd : Int32} {dk mn : Nat → Int32} {cs : Nat → Int64} {nx gs : Nat → Int32} {pr : Nat → Int64} {ln wy : Nat → Int32} {sg : Nat → Int64} {my : Nat → Int32} {a : Int32} (hs : szs nW nH) (h : Inv1 nW nH d l fn dk pr ln wy) : wX1_cut nW nH dk th fn wd mn cs nx gs pr ln wy sg my a (fun r _ fn' _ _ _ _ _ pr' ln' wy' _ _ => r = aCut nW nH d a ∧ Inv1 nW nH d (lCut nW nH d l a) fn' dk pr' ln' wy') := by
  refine ok1_cut hs h.1 (fun c => ?_) (fun c1 c2 c3 => ?_) (fun k k1 k2 e c3 fn' wd' mn' cs' nx' gs' pr' ln' wy' sg' my' hr => ?_)
  · unfold aCut lCut
    rw [if_pos c, if_pos c]
    exact ⟨rfl, h⟩
  · have c : ¬ (a < 1 ∨ ¬ a ≤ 40) := fun q => q.elim c1 (fun q => q c2)
    unfold aCut lCut
    rw [if_neg c, if_neg c, if_pos c3, if_pos c3]
    exact ⟨rfl, h.1, rfl, fun w q => absurd q (Nat.not_lt_zero w)⟩
  · have c := cut_in k1 k2 e
    unfold aCut lCut
    rw [if_neg c, if_neg c, if_neg c3, if_neg c3, e, nI_clamp (by omega)]
    exact ⟨hr.1, h.1, hr⟩
theorem inv0_new {nW nH : Nat} : Inv0 nW nH (fun _ _ => false) (0, fun _ => (0, [])) 0 0 (fun _ => 0) (fun _ => 0) (fun _ => 0) (fun _ => 0) :=
  ⟨⟨fun x _ i => by rw [lb_0, Bool.and_false], fun y _ i => by rw [lb_0, Bool.and_false]⟩, rfl, fun q => absurd q (Nat.lt_irrefl 0)⟩
theorem inv1_new {nW nH : Nat} : Inv1 nW nH (fun _ _ => false) (0, fun _ => (0, [])) 0 (fun _ => 0) (fun _ => 0) (fun _ => 0) (fun _ => 0) :=
  ⟨fun x y _ _ => rfl, rfl, fun w q => absurd q (Nat.not_lt_zero w)⟩
theorem okL_new {nW : Nat} : okL nW ((0, fun _ => (0, [])) : Sh (List Nat)) := ⟨Nat.zero_le _, fun w hw => absurd hw (Nat.not_lt_zero w)⟩
/-- the worlds of the two, with what they hold -/
def G0 (ad : Nat → Nat) (cA : Nat → ClassId) (nW nH : Nat) (d : Nat → Nat → Bool) (l : Sh (List Nat)) (w : va_W) : Prop := ∃ (ff fd : Int32) (cols rows ends : Nat → Int64) (ecost ecnt tails longer : Nat → Int32), w = wX0 ad cA nW nH ff fd cols rows ends ecost ecnt tails longer ∧ Inv0 nW nH d l ff fd cols rows ends ecost
def G1 (ad : Nat → Nat) (cA : Nat → ClassId) (nW nH : Nat) (d : Nat → Nat → Bool) (l : Sh (List Nat)) (w : va_W) : Prop := ∃ (th fn wd : Int32) (dk mn : Nat → Int32) (cs : Nat → Int64) (nx gs : Nat → Int32) (pr : Nat → Int64) (ln wy : Nat → Int32) (ct bf sg : Nat → Int64) (my : Nat → Int32), w = wX1 ad cA nW nH th fn wd dk mn cs nx gs pr ln wy ct bf sg my ∧ Inv1 nW nH d l fn dk pr ln wy
/-! ===== the frame of the claim, as the skeleton has it ===== -/
def R_law : String := "SignCutterLaw"
def lw_P (b : Addr) (xs : List Int32) (args : Array Value) (s : State) : Prop := args = #[.ref b] ∧ s.IntsAt b xs ∧ xs.length ≤ 2050 ∧ (Jvm.Cond.and given_1 narrow_1).before args s = true
def lw_Q (_ : Array Value) (s : State) (o : Outcome) (t : State) : Prop := o = .returned (some (.int 1)) ∧ Framed s o t [] 601024 7293000
def lw_Z (below : List Frame) (a : Array Value) (s : State) : State → Prop := fun t => ∃ o, t.status = .running ∧ Ended t below o ∧ lw_Q a s o t
theorem lw_ret {p : Program} {l : Launch} {e : Env} {s : State} {m : MethodId} {below : List Frame} {meth : Method} {c : Code} {b : Nat} (hx : p.tables.exec = Jvm.exec) (hb : c.code = code) (hr : meth.sig.returnType = ret) (hlocks : meth.locks = false) {pc : Nat} {H : Heap} {ls : Array Slot} (hdg : decode code pc = .ok (.ireturn, 1)) : W p l e room_1 s m #[Value.ref b] below meth c H [] 601024 7293000 (lw_Z below #[Value.ref b] s) (F0 m pc ls [.int 1]) := by
  intro T hT X
  obtain ⟨fs, hret, hrun, hended, hW, hframe⟩ := X.leave (v := some (.int 1)) (hlocks := hlocks) (fun h => by rw [hr] at h; cases h)
  have hmeth' : T.vm.method? m = some meth := X.method'
  refine ⟨T.setFrames fs, ?_, .returned (some (.int 1)), hrun, hended, rfl, ⟨_, rfl⟩, hW, hframe⟩
  jvm_step X.here [X.here.top, hx, hb, hdg, hmeth', hr, ret, narrow_b1]
  (try refine ⟨rfl, ?_⟩); (try refine ⟨rfl, ?_⟩)
  first | (intro acts; rw [hret _ acts rfl rfl rfl]) | rw [hret _ _ rfl rfl rfl]
  exact Steps.refl _
def lw_At (p : Program) (s : State) (m : MethodId) (meth : Method) (c : Code) (b L : Nat) (xs : Nat → Int32) : Prop :=
  p.tables.exec = Jvm.exec ∧ c.code = code ∧ meth.sig.returnType = ret ∧ c.maxLocals = 5 ∧ s.vm.findClass R_law = some m.cls ∧ (∀ w ∈ lw_tbl, w.before #[Value.ref b] s = true) ∧ va_X b L xs s s.heap ∧ b < s.heap.size ∧ meth.locks = false ∧ (Jvm.Cond.and given_1 narrow_1).before #[Value.ref b] s = true
