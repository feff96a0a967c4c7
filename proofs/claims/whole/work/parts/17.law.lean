/-! THE CLAIM OUT OF ONE WALK OF THE LAW'S BODY. Your part is whole_start (and what it stands on); all else here is the same for every law, but numbers. -/
def R_law : String := "RulerFootLaw"
def lw_P (b : Addr) (xs : List Int32) (args : Array Value) (s : State) : Prop := args = #[.ref b] ∧ s.IntsAt b xs ∧ xs.length ≤ 2048 ∧ (Jvm.Cond.and given_1 narrow_1).before args s = true
def lw_Q (_ : Array Value) (s : State) (o : Outcome) (t : State) : Prop := o = .returned (some (.int 1)) ∧ Framed s o t [] 600000 7302250
def lw_Z (below : List Frame) (a : Array Value) (s : State) : State → Prop := fun t => ∃ o, t.status = .running ∧ Ended t below o ∧ lw_Q a s o t
/-- the law's own end, with 1 on the stack, nothing written that was there before, its room as the claim has it -/
theorem lw_ret {p : Program} {l : Launch} {e : Env} {s : State} {m : MethodId} {below : List Frame} {meth : Method} {c : Code} {b : Nat} (hx : p.tables.exec = Jvm.exec) (hb : c.code = code) (hr : meth.sig.returnType = ret) (hlocks : meth.locks = false) {pc : Nat} {H : Heap} {ls : Array Slot} (hdg : decode code pc = .ok (.ireturn, 1)) : W p l e room_1 s m #[Value.ref b] below meth c H [] 600000 7302250 (lw_Z below #[Value.ref b] s) (F0 m pc ls [.int 1]) := by
  intro T hT X
  obtain ⟨fs, hret, hrun, hended, hW, hframe⟩ := X.leave (v := some (.int 1)) (hlocks := hlocks) (fun h => by rw [hr] at h; cases h)
  have hmeth' : T.vm.method? m = some meth := X.method'
  refine ⟨T.setFrames fs, ?_, .returned (some (.int 1)), hrun, hended, rfl, ⟨_, rfl⟩, hW, hframe⟩
  jvm_step X.here [X.here.top, hx, hb, hdg, hmeth', hr, ret, narrow_b1]
  (try refine ⟨rfl, ?_⟩); (try refine ⟨rfl, ?_⟩)
  first | (intro acts; rw [hret _ acts rfl rfl rfl]) | rw [hret _ _ rfl rfl rfl]
  exact Steps.refl _
/-- what holds at the law's entry: the machine, the code, the tables' words (any of lw_tbl by 'hts w (by decide +kernel)'), the script of L ints xs at the cell b, what the Statement gives of the start (any of its parts by flat_of_before) -/
def lw_At (p : Program) (s : State) (m : MethodId) (meth : Method) (c : Code) (b L : Nat) (xs : Nat → Int32) : Prop :=
  p.tables.exec = Jvm.exec ∧ c.code = code ∧ meth.sig.returnType = ret ∧ c.maxLocals = 4 ∧ s.vm.findClass R_law = some m.cls ∧ (∀ w ∈ lw_tbl, w.before #[Value.ref b] s = true) ∧ va_X b L xs s s.heap ∧ b < s.heap.size ∧ meth.locks = false ∧ (Jvm.Cond.and given_1 narrow_1).before #[Value.ref b] s = true
/-! THE LAW: two worlds, the class's behind B, the reference's behind B + 228 -/
def lw_SC : pm_S := eX11_init [(14, 17)]
def lw_SR : pm_S := eX12_init [(15, 43)]
def lw_z : pm_H := (fun _ _ => 0, fun _ _ => 0)
def lw_C0 : pm_H := gX11_init 1 1 lw_z
def lw_R0 : pm_H := gX12_init 1 1 lw_z
theorem lw_SC_len : lw_SC.length = 228 := by
  obtain ⟨e, he, hl⟩ := xX11_init (S := [(14, 17)])
  rw [lw_SC, he, List.length_append, hl]
  rfl
theorem lw_SR_len : lw_SR.length = 23 := by
  obtain ⟨e, he, hl⟩ := xX12_init (S := [(15, 43)])
  rw [lw_SR, he, List.length_append, hl]
  rfl
theorem lw_is1 : pm_is lw_SC 1 14 := pm_isx xX11_init ⟨17, rfl⟩
theorem lw_is2 : pm_is lw_SR 1 15 := pm_isx xX12_init ⟨43, rfl⟩
theorem lw_tot : pm_tot lw_SC + pm_tot lw_SR ≤ 20000 := by decide +kernel
/-- the types, by a program's look at every place -/
def lw_tck (S : pm_S) (g : Nat → Nat → Nat) (N : Nat) : Bool := (List.range S.length).all (fun i => match pm_sh S (i + 1) with
  | some (ci + 3, _) => (List.range N).all (fun k => match pm_ft ci k with
    | some t => (match pm_sh S (g (i + 1) k) with | some u => u.1 == t | none => false)
    | none => true)
  | some (2, n) => (List.range n).all (fun j => match pm_sh S (g (i + 1) j) with | some u => u.1 == 11 | none => false)
  | _ => true)
theorem pm_ft_lt {ci k t : Nat} (h : pm_ft ci k = some t) : k < 43 := by
  by_cases hk : k < 43
  · exact hk
  · exfalso
    have : ∀ c, (pm_ftl.getD c []).length ≤ 43 := by
      intro c
      by_cases hc : c < 13
      · have hall : ∀ c, c < 13 → (pm_ftl.getD c []).length ≤ 43 := by decide
        exact hall c hc
      · have hl : pm_ftl.length = 13 := rfl
        rw [List.getD_eq_getElem?_getD, List.getElem?_eq_none (by omega)]
        decide
    have h2 := this ci
    rw [pm_ft, List.getD_eq_getElem?_getD, List.getElem?_eq_none (by omega)] at h
    cases h
theorem lw_tck_T {S : pm_S} {g : Nat → Nat → Nat} (h : lw_tck S g 43 = true) : pm_T S g := by
  have key : ∀ q t, pm_is S q t → ∃ i, q = i + 1 ∧ i ∈ List.range S.length := by
    intro q t hq
    have h1 := hq.pos
    have h2 := hq.le
    exact ⟨q - 1, by omega, List.mem_range.mpr (by omega)⟩
  have hall := List.all_eq_true.mp h
  refine ⟨fun q ci k t hq hf => ?_, fun q j hq hj => ?_⟩
  · obtain ⟨i, rfl, hi⟩ := key q _ hq
    have h1 := hall i hi
    rw [hq.at] at h1
    have h2 := List.all_eq_true.mp h1 k (List.mem_range.mpr (pm_ft_lt hf))
    rw [hf] at h2
    cases hs : pm_sh S (g (i + 1) k) with
    | none => simp [hs] at h2
    | some u =>
      simp only [hs, beq_iff_eq] at h2
      exact ⟨u.2, by rw [hs, ← h2]⟩
  · obtain ⟨i, rfl, hi⟩ := key q _ hq
    have h1 := hall i hi
    rw [hq.at] at h1
    have h2 := List.all_eq_true.mp h1 j (List.mem_range.mpr hj)
    cases hs : pm_sh S (g (i + 1) j) with
    | none => simp [hs] at h2
    | some u =>
      simp only [hs, beq_iff_eq] at h2
      exact ⟨u.2, by rw [hs, ← h2]⟩
set_option maxRecDepth 100000 in
theorem lw_TC : pm_T lw_SC lw_C0.2 := lw_tck_T (by decide +kernel)
set_option maxRecDepth 100000 in
theorem lw_TR : pm_T lw_SR lw_R0.2 := lw_tck_T (by decide +kernel)
theorem lw_z_Z (S : pm_S) : pm_Z S lw_z := fun _ _ _ => ⟨rfl, rfl⟩
theorem lw_K {s : State} {args : Array Value} (hts : ∀ w ∈ lw_good, w.before args s = true) (hN : va_AO "RulerFoot$Standing" s) : ∃ (D : va_G) (aC : Nat → ClassId), va_K D vwCl (pm_tys aC) s := by
  obtain ⟨c0, iS0, hK0⟩ := u_known (C := RX0) (T := TX0) (N := 3) (n := 3) hts pm_cl0.2.1 (hts (.instantiable RX0 3) (lw_gm 370 (by decide +kernel) (by decide +kernel)))
  obtain ⟨c1, iS1, hK1⟩ := u_known (C := RX1) (T := TX1) (N := 2) (n := 2) hts pm_cl1.2.1 (hts (.instantiable RX1 2) (lw_gm 247 (by decide +kernel) (by decide +kernel)))
  obtain ⟨c2, iS2, hK2⟩ := u_known (C := RX2) (T := TX2) (N := 5) (n := 5) hts pm_cl2.2.1 (hts (.instantiable RX2 5) (lw_gm 303 (by decide +kernel) (by decide +kernel)))
  obtain ⟨c3, iS3, hK3⟩ := u_known (C := RX3) (T := TX3) (N := 3) (n := 3) hts pm_cl3.2.1 (hts (.instantiable RX3 3) (lw_gm 283 (by decide +kernel) (by decide +kernel)))
  obtain ⟨c4, iS4, hK4⟩ := u_known (C := RX4) (T := TX4) (N := 3) (n := 3) hts pm_cl4.2.1 (hts (.instantiable RX4 3) (lw_gm 327 (by decide +kernel) (by decide +kernel)))
  obtain ⟨c5, iS5, hK5⟩ := u_known (C := RX5) (T := TX5) (N := 6) (n := 6) hts pm_cl5.2.1 (hts (.instantiable RX5 6) (lw_gm 94 (by decide +kernel) (by decide +kernel)))
  obtain ⟨c6, iS6, hK6⟩ := u_known (C := RX6) (T := TX6) (N := 4) (n := 4) hts pm_cl6.2.1 (hts (.instantiable RX6 4) (lw_gm 193 (by decide +kernel) (by decide +kernel)))
  obtain ⟨c7, iS7, hK7⟩ := u_known (C := RX7) (T := TX7) (N := 6) (n := 6) hts pm_cl7.2.1 (hts (.instantiable RX7 6) (lw_gm 343 (by decide +kernel) (by decide +kernel)))
  obtain ⟨c8, iS8, hK8⟩ := u_known (C := RX8) (T := TX8) (N := 4) (n := 4) hts pm_cl8.2.1 (hts (.instantiable RX8 4) (lw_gm 187 (by decide +kernel) (by decide +kernel)))
  obtain ⟨c9, iS9, hK9⟩ := u_known (C := RX9) (T := TX9) (N := 11) (n := 11) hts pm_cl9.2.1 (hts (.instantiable RX9 11) (lw_gm 122 (by decide +kernel) (by decide +kernel)))
  obtain ⟨c10, iS10, hK10⟩ := u_known (C := RX10) (T := TX10) (N := 5) (n := 5) hts pm_cl10.2.1 (hts (.instantiable RX10 5) (lw_gm 219 (by decide +kernel) (by decide +kernel)))
  obtain ⟨c11, iS11, hK11⟩ := u_known (C := RX11) (T := TX11) (N := 17) (n := 17) hts pm_cl11.2.1 (hts (.instantiable RX11 17) (lw_gm 86 (by decide +kernel) (by decide +kernel)))
  obtain ⟨c12, iS12, hK12⟩ := u_known (C := RX12) (T := TX12) (N := 43) (n := 43) hts pm_cl12.2.1 (hts (.instantiable RX12 43) (lw_gm 935 (by decide +kernel) (by decide +kernel)))
  obtain ⟨a0, k0, cm0, f0, g0, e0⟩ := Cond.arrayClass_spec (hts (.arrayClass .int) (lw_gm 120 (by decide +kernel) (by decide +kernel)))
  obtain ⟨a1, k1, cm1, f1, g1, e1⟩ := Cond.arrayClass_spec (hts (.arrayClass .boolean) (lw_gm 325 (by decide +kernel) (by decide +kernel)))
  obtain ⟨cm2, a2, k2, f2, -, g2, e2, n2⟩ := Cond.arrayOver_spec hN
  refine ⟨(fun k => match k with | 0 => c0 | 1 => c1 | 2 => c2 | 3 => c3 | 4 => c4 | 5 => c5 | 6 => c6 | 7 => c7 | 8 => c8 | 9 => c9 | 10 => c10 | 11 => c11 | _ => c12, fun k => match k with | 0 => iS0 | 1 => iS1 | 2 => iS2 | 3 => iS3 | 4 => iS4 | 5 => iS5 | 6 => iS6 | 7 => iS7 | 8 => iS8 | 9 => iS9 | 10 => iS10 | 11 => iS11 | _ => iS12), fun k => match k with | 0 => a0 | 1 => a1 | _ => a2, ?_, ?_⟩
  · intro k q hq
    match k, hq with
    | 0, hq => cases hq; exact hK0
    | 1, hq => cases hq; exact hK1
    | 2, hq => cases hq; exact hK2
    | 3, hq => cases hq; exact hK3
    | 4, hq => cases hq; exact hK4
    | 5, hq => cases hq; exact hK5
    | 6, hq => cases hq; exact hK6
    | 7, hq => cases hq; exact hK7
    | 8, hq => cases hq; exact hK8
    | 9, hq => cases hq; exact hK9
    | 10, hq => cases hq; exact hK10
    | 11, hq => cases hq; exact hK11
    | 12, hq => cases hq; exact hK12
    | k + 13, hq => simp [vwCl] at hq
  · intro k q hq
    match k, hq with
    | 0, hq => cases hq; exact ⟨fun n z => ⟨fun k h => (by cases h), k0, g0, cm0, e0⟩, f0⟩
    | 1, hq => cases hq; exact ⟨fun n z => ⟨fun k h => (by cases h), k1, g1, cm1, e1⟩, f1⟩
    | 2, hq => cases hq; exact ⟨fun n z => ⟨fun k h => (by cases h), k2, g2, cm2, e2⟩, k2, cm2, g2, e2, f2, n2⟩
    | k + 3, hq => simp [pm_tys] at hq
