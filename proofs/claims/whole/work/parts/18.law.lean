theorem lw_nest {s : State} {args : Array Value} (hts : ∀ w ∈ lw_tbl, w.before args s = true) : ∀ w ∈ pm_nest, va_Nw w s := by
  intro w hw
  have hm : ∀ w ∈ pm_nest, w ∈ lw_tbl := by decide +kernel
  have h' := hts w (hm w hw)
  simp only [pm_nest, List.mem_cons, List.not_mem_nil, or_false] at hw
  rcases hw with rfl | rfl | rfl
  · exact va_Nw.of rfl h'
  · exact va_Nw.of rfl h'
  · exact va_AO.of h'
def lw_G (l : Launch) (L : Nat) (xs : Nat → Int32) (pc i : Nat) (st : Nat → Nat → List Value) (σC σR : pm_H) : Prop :=
  ∀ (p : Program) (e : Env) (s : State) (m : MethodId) (below : List Frame) (meth : Method) (c : Code) (b : Nat) (D : va_G) (aC : Nat → ClassId) (B : Nat) (H : Heap) (ls : Array Slot) (locs : List Loc),
    lw_At p s m meth c b L xs → va_K D vwCl (pm_tys aC) s → s.heap.size = B + 1 → va_P D vwCl (pm_ws aC B lw_SC σC) H → va_P D vwCl (pm_ws aC (B + 228) lw_SR σR) H → pm_T lw_SC σC.2 → pm_T lw_SR σR.2 → va_S (fun q => s.heap.size ≤ q) s.heap H locs → lv_has ls 4 [(0, .ref b), (1, .ref (B + 1)), (2, .ref (B + 229)), (3, .int (nI i))] →
    W p l e room_1 s m #[Value.ref b] below meth c H locs 251 (pm_tot lw_SC + pm_tot lw_SR) (lw_Z below #[Value.ref b] s) (F0 m pc ls (st b B))
section LWG
variable {l : Launch} {L : Nat} {xs : Nat → Int32} {pc i : Nat} {st : Nat → Nat → List Value} {σC σR : pm_H}
theorem lw_go {pc' : Nat} {st' : Nat → Nat → List Value}
    (h : ∀ (p : Program) (e : Env) (s : State) (m : MethodId) (below : List Frame) (meth : Method) (c : Code) (b B : Nat) (H : Heap) (ls : Array Slot) (locs : List Loc) (cells slots : Nat) (Q : State → Prop), p.tables.exec = Jvm.exec → c.code = cL_law → va_X b L xs s s.heap → b < s.heap.size → va_S (fun q => s.heap.size ≤ q) s.heap H locs → lv_has ls 4 [(0, .ref b), (1, .ref (B + 1)), (2, .ref (B + 229)), (3, .int (nI i))] →
      W p l e room_1 s m #[Value.ref b] below meth c H locs cells slots Q (F0 m pc' ls (st' b B)) → W p l e room_1 s m #[Value.ref b] below meth c H locs cells slots Q (F0 m pc ls (st b B)))
    (k : lw_G l L xs pc' i st' σC σR) : lw_G l L xs pc i st σC σR :=
  fun p e s m below meth c b D aC B H ls locs hA hK hB hPC hPR hTC hTR hS hl =>
    h p e s m below meth c b B H ls locs _ _ _ hA.1 hA.2.1 hA.2.2.2.2.2.2.1 hA.2.2.2.2.2.2.2.1 hS hl (k p e s m below meth c b D aC B H ls locs hA hK hB hPC hPR hTC hTR hS hl)
theorem lw_al1 (hd : decode cL_law pc = .ok (.aload_n 1, 1)) (k : lw_G l L xs (pc + 1) i (fun b B => .ref (B + 1) :: st b B) σC σR) : lw_G l L xs pc i st σC σR :=
  lw_go (fun _ _ _ _ _ _ _ _ _ _ _ _ _ _ _ hx hb _ _ _ hl w => lv_aload_n hx hb hd rfl (lv_at hl 1 rfl) w) k
theorem lw_al2 (hd : decode cL_law pc = .ok (.aload_n 2, 1)) (k : lw_G l L xs (pc + 1) i (fun b B => .ref (B + 229) :: st b B) σC σR) : lw_G l L xs pc i st σC σR :=
  lw_go (fun _ _ _ _ _ _ _ _ _ _ _ _ _ _ _ hx hb _ _ _ hl w => lv_aload_n hx hb hd rfl (lv_at hl 2 rfl) w) k
theorem lw_nIk {i k : Nat} {v : Int32} (hv : Int32.ofInt (k : Int) = v) : nI i + v = nI (i + k) := by
  have h1 : v = nI k := by rw [← hv]; rfl
  rw [h1]
  show Int32.ofNat i + Int32.ofNat k = Int32.ofNat (i + k)
  exact (Int32.ofNat_add i k).symm
/-- an argument: the script's next int but k - 1 -/
theorem lw_arg {k : Nat} {pc2 : Nat} (hk : i + k < L) (hL : L ≤ 2048) (hp : pc + 5 = pc2) (d1 : decode cL_law pc = .ok (.aload_n 0, 1)) (d2 : decode cL_law (pc + 1) = .ok (.iload_n 3, 1)) (d3 : decode cL_law (pc + 2) = .ok (.iconst (k : Int), 1)) (d4 : decode cL_law (pc + 3) = .ok (.iadd, 1)) (d5 : decode cL_law (pc + 4) = .ok (.iaload, 1))
    (K : lw_G l L xs pc2 i (fun b B => .int (xs (i + k)) :: st b B) σC σR) : lw_G l L xs pc i st σC σR := by
  subst hp
  refine lw_go (fun p e s m below meth c b B H ls locs cells slots Q hx hb hX hbl hS hl w => ?_) K
  have hbA : ¬ (fun q : Nat => s.heap.size ≤ q) b := Nat.not_le.mpr hbl
  refine lv_aload_n hx hb d1 rfl (lv_at hl 0 rfl) ?_
  refine lv_iload_n hx hb d2 rfl (lv_at hl 3 rfl) ?_
  refine lv_iconst (v := Int32.ofInt (k : Int)) hx hb d3 rfl ?_
  refine lv_iadd hx hb d4 ?_
  rw [lw_nIk rfl]
  refine va_sld hx hb hX hbl hbA hS (vp_in_nI hk (by omega)) d5 ?_
  rw [nI_clamp (by omega)]
  exact w
end LWG
/-- a call of a method of one of the worlds, out of the law -/
theorem lw_call {p : Program} {l : Launch} {e : Env} {s : State} {m : MethodId} {below : List Frame} {meth : Method} {c : Code} {b L : Nat} {xs : Nat → Int32} {D : va_G} {aC : Nat → ClassId} {B1 : Nat} {S1 : pm_S} {σ1 : pm_H} {H : Heap} {ls : Array Slot} {locs : List Loc} {cells slots pc idx n d' nL' ci : Nat} {y' : MethodName} {cc' : ByteArray} {as rest : List Value} {u : Int32 × pm_H} {Q : State → Prop} {lv : List (Nat × Value)}
    (hA : lw_At p s m meth c b L xs) (hK : va_K D vwCl (pm_tys aC) s) (hB : s.heap.size ≤ B1 + 1) (hP : va_P D vwCl (pm_ws aC B1 S1 σ1) H) (hT : pm_T S1 σ1.2) (hS : va_S (fun q => s.heap.size ≤ q) s.heap H locs) (hl : lv_has ls 4 lv)
    (hL : pm_LV RL idx y' cc' nL' (some .int) n ci) (hi1 : pm_is S1 1 (ci + 3)) (hM : pm_M l y' cc' nL' (some .int) false d' (.ref 1 :: as) S1 σ1 (pm_ri S1 u)) (hd' : d' ≤ 8) (hl' : 8 + (nL' + 11) + 38 * d' ≤ 320) (has : ∀ B, as.map (pm_v B) = as) (hn : as.length = n) (h8 : (rest.map fun v => v.category).sum ≤ 8) (hc : cells ≤ 600000 ∧ slots ≤ 7302250) (hd : decode cL_law pc = .ok (.invokevirtual idx, 3))
    (kk : ∀ (H1 : Heap) (locs1 : List Loc), va_P D vwCl (pm_ws aC B1 S1 u.2) H1 → pm_T S1 u.2.2 → va_S (fun q => s.heap.size ≤ q) s.heap H1 locs1 → (∀ q, q < H.size → ¬ pm_A false B1 S1.length q → H1[q]? = H[q]?) → W p l e room_1 s m #[Value.ref b] below meth c H1 locs1 cells slots Q (F0 m (pc + 3) ls (.int u.1 :: rest))) :
    W p l e room_1 s m #[Value.ref b] below meth c H locs cells slots Q (F0 m pc ls (as.reverse ++ .ref (B1 + 1) :: rest)) := by
  obtain ⟨hx, hb, hr, hml, hown, hts, hX, hbl, hlocks, hgv⟩ := hA
  have htg : ∀ w ∈ lw_good, w.before #[Value.ref b] s = true := fun w h => hts w (List.mem_filter.mp h).1
  have hN : ∀ w ∈ pm_nest, va_Nw w s := lw_nest hts
  obtain ⟨hL1, hL2, T, N, hC⟩ := hL
  have cw : CallW room_1 s #[Value.ref b] RL y'.cls idx y' cc' nL' (some .int) (.code y' cc' nL' (some .int) :: lw_good) (pm_rm d' (pm_mc S1 (pm_ri S1 u)) (pm_ms S1 (pm_ri S1 u))) (pm_mc S1 (pm_ri S1 u)) (pm_ms S1 (pm_ri S1 u)) n := by
    refine ⟨callB_of n htg (pm_goodIn hL1.2.2.1) rfl rfl rfl (htg _ hL1.2.1) (htg _ hL1.1) hL1.2.2.2.1 ⟨?_, hl'⟩, htg _ hL2.1, htg _ hL2.2⟩
    show d' + 1 ≤ 9
    omega
  have hM' := hM D aC B1
  have e0 : pm_mc S1 (pm_ri S1 u) = 0 := Nat.sub_self _
  have e0' : pm_ms S1 (pm_ri S1 u) = 0 := Nat.sub_self _
  have hav : (Value.ref 1 :: as).map (pm_v B1) = .ref (B1 + 1) :: as := by rw [List.map_cons, has]; rfl
  rw [hav] at hM'
  have run := va_runV (locs := locs) (cells := cells) (slots := slots) (below := below) (meth := meth) (p := p) (e := e) (R := room_1) (As := as) (rest := rest) (b := B1 + 1) (H := H) (g := F0 m pc ls (as.reverse ++ .ref (B1 + 1) :: rest)) (cc := cL_law) (nL := 4) (Ts := lw_good) (own := RL) ⟨hx, hb, hml, hown, htg⟩ hM' cw ⟨pm_blind, va_recv hK hP hC (pm_obj hi1), pm_pre hK hP (fun _ => hT) (fun z => by cases z) hN⟩ rfl hn hl.1 rfl (lv_room h8) hd ⟨by rw [e0]; exact hc.1, by rw [e0']; exact hc.2⟩
  intro T0 hT0 X0
  obtain ⟨v, st₀, t, T', L1, h0, X', hL', e1, e2, ⟨hv, hP1, hT1, hz, hk⟩, st1⟩ := run T0 hT0 X0
  rw [h0] at hz hk
  have hAm : ∀ q, pm_A false B1 S1.length q → s.heap.size ≤ q := fun q hq => by have := hq.1; omega
  have hS2 : va_S (fun q => s.heap.size ≤ q) s.heap T'.heap (locs ++ L1) := by
    refine ⟨Nat.le_trans hS.1 (by rw [e1]; exact hz), fun q g1 g2 => ?_, fun q hq => ?_⟩
    · rw [e1, hk q (Nat.lt_of_lt_of_le g1 hS.1) (fun z => g2 (hAm q z))]
      exact hS.2.1 q g1 g2
    · rcases List.mem_append.mp hq with h | h
      · exact hS.2.2 q h
      · exact hAm _ (hL' q h)
  have hv' : v = some (.int u.1) := Outcome.returned.inj hv
  subst hv'
  rw [e0, e0'] at X'
  obtain ⟨t2, a1, b1⟩ := kk T'.heap (locs ++ L1) (by rw [e1]; exact hP1) (hT1 rfl) hS2 (fun q g1 g2 => by rw [e1]; exact hk q g1 g2) T' rfl X'
  exact ⟨t2, st1 t2 a1, b1⟩
theorem lw_keep {D : va_G} {aC : Nat → ClassId} {B : Nat} {S : pm_S} {σ : pm_H} {H H1 : Heap} {A : Nat → Prop} (hP : va_P D vwCl (pm_ws aC B S σ) H) (hA : ∀ q, B < q → q ≤ B + S.length → ¬ A q) (hk : ∀ q, q < H.size → ¬ A q → H1[q]? = H[q]?) : va_P D vwCl (pm_ws aC B S σ) H1 := by
  refine hP.kept (fun k x hx => ?_)
  have hlt := (hP k x hx).lt
  rw [pm_ws_at] at hx
  cases hS : S[k]? with
  | none => rw [hS] at hx; cases hx
  | some t =>
    rw [hS] at hx
    cases hx
    have hkl := (List.getElem?_eq_some_iff.mp hS).1
    exact hk _ hlt (hA _ (by simp only; omega) (by simp only; omega))
section LWH
variable {l : Launch} {L : Nat} {xs : Nat → Int32} {pc i : Nat} {st : Nat → Nat → List Value} {σC σR : pm_H}
theorem lw_cC {idx n d' nL' pc2 : Nat} {y' : MethodName} {cc' : ByteArray} {as : List Value} {st0 : Nat → Nat → List Value} {u : Int32 × pm_H} (hL : pm_LV RL idx y' cc' nL' (some .int) n 11) (hM : pm_M l y' cc' nL' (some .int) false d' (.ref 1 :: as) lw_SC σC (pm_ri lw_SC u)) (hd' : d' ≤ 8) (hl' : 8 + (nL' + 11) + 38 * d' ≤ 320) (has : ∀ B, as.map (pm_v B) = as) (hn : as.length = n) (hst : st0 = fun b B => as.reverse ++ .ref (B + 1) :: st b B) (h8 : ∀ b B, ((st b B).map fun v => v.category).sum ≤ 8) (hp : pc + 3 = pc2) (hd : decode cL_law pc = .ok (.invokevirtual idx, 3))
    (K : lw_G l L xs pc2 i (fun b B => .int u.1 :: st b B) u.2 σR) : lw_G l L xs pc i st0 σC σR := by
  intro p e s m below meth c b D aC B H ls locs hA hK hB hPC hPR hTC hTR hS hl
  subst hst; subst hp
  refine lw_call (B1 := B) hA hK (by omega) hPC hTC hS hl hL lw_is1 hM hd' hl' has hn (h8 b B) ⟨by decide, Nat.le_trans lw_tot (by decide)⟩ hd (fun H1 locs1 hP1 hT1 hS1 hk => ?_)
  refine K p e s m below meth c b D aC B H1 ls locs1 hA hK hB hP1 (lw_keep hPR (fun q g1 g2 z => ?_) hk) hT1 hTR hS1 hl
  have := z.2 rfl
  rw [lw_SC_len] at this
  omega
theorem lw_cR {idx n d' nL' pc2 : Nat} {y' : MethodName} {cc' : ByteArray} {as : List Value} {st0 : Nat → Nat → List Value} {u : Int32 × pm_H} (hL : pm_LV RL idx y' cc' nL' (some .int) n 12) (hM : pm_M l y' cc' nL' (some .int) false d' (.ref 1 :: as) lw_SR σR (pm_ri lw_SR u)) (hd' : d' ≤ 8) (hl' : 8 + (nL' + 11) + 38 * d' ≤ 320) (has : ∀ B, as.map (pm_v B) = as) (hn : as.length = n) (hst : st0 = fun b B => as.reverse ++ .ref (B + 229) :: st b B) (h8 : ∀ b B, ((st b B).map fun v => v.category).sum ≤ 8) (hp : pc + 3 = pc2) (hd : decode cL_law pc = .ok (.invokevirtual idx, 3))
    (K : lw_G l L xs pc2 i (fun b B => .int u.1 :: st b B) σC u.2) : lw_G l L xs pc i st0 σC σR := by
  intro p e s m below meth c b D aC B H ls locs hA hK hB hPC hPR hTC hTR hS hl
  subst hst; subst hp
  refine lw_call (B1 := B + 228) hA hK (by omega) hPR hTR hS hl hL lw_is2 hM hd' hl' has hn (h8 b B) ⟨by decide, Nat.le_trans lw_tot (by decide)⟩ hd (fun H1 locs1 hP1 hT1 hS1 hk => ?_)
  refine K p e s m below meth c b D aC B H1 ls locs1 hA hK hB (lw_keep hPC (fun q g1 g2 z => ?_) hk) hP1 hTC hT1 hS1 hl
  have := z.1
  rw [lw_SC_len] at g2
  omega
theorem lw_eq {x : Int32} {off : Int} (tgt : Nat) (hd : decode cL_law pc = .ok (.if_icmp .eq off, 3)) (ht : (pc : Int) + off = (tgt : Int)) (k : lw_G l L xs tgt i st σC σR) : lw_G l L xs pc i (fun b B => .int x :: .int x :: st b B) σC σR :=
  lw_go (fun _ _ _ _ _ _ _ _ _ _ _ _ _ _ _ hx hb _ _ _ _ w => lv_icmp_eq hx hb hd ht (fun _ => w) (fun h => absurd rfl h)) k
theorem lw_tin {dflt lo hi : Int} {offs : Array Int} {len : Nat} {x k : Int32} {off : Int} (tgt : Nat) (hx : x = k) (hd : decode cL_law pc = .ok (.tableswitch dflt lo hi offs, len)) (hk : ¬ k.toInt < lo ∧ ¬ hi < k.toInt ∧ offs[(k.toInt - lo).toNat]? = some off) (ht : (pc : Int) + off = (tgt : Int)) (K : lw_G l L xs tgt i st σC σR) : lw_G l L xs pc i (fun b B => .int x :: st b B) σC σR := by
  subst hx
  exact lw_go (fun _ _ _ _ _ _ _ _ _ _ _ _ _ _ _ hx hb _ _ _ _ w => lv_tableIn hx hb hd hk.1 hk.2.1 hk.2.2 ht w) K
theorem lw_tout {dflt lo hi : Int} {offs : Array Int} {len : Nat} {x : Int32} (tgt : Nat) (hd : decode cL_law pc = .ok (.tableswitch dflt lo hi offs, len)) (h : x.toInt < lo ∨ hi < x.toInt) (ht : (pc : Int) + dflt = (tgt : Int)) (K : lw_G l L xs tgt i st σC σR) : lw_G l L xs pc i (fun b B => .int x :: st b B) σC σR :=
  lw_go (fun _ _ _ _ _ _ _ _ _ _ _ _ _ _ _ hx hb _ _ _ _ w => lv_tableOut hx hb hd h ht w) K
/-- behind the loop's body -/
theorem lw_next (K : lw_G l L xs 18 (i + 4) (fun _ _ => []) σC σR) : lw_G l L xs 1305 i (fun _ _ => []) σC σR := by
  intro p e s m below meth c b D aC B H ls locs hA hK hB hPC hPR hTC hTR hS hl
  refine lv_iinc (v := nI (i + 4)) (lv' := [(3, .int (nI (i + 4))), (0, .ref b), (1, .ref (B + 1)), (2, .ref (B + 229))]) hA.1 hA.2.1 dL_law_1305 hl (k := 3) rfl (lw_nIk (k := 4) rfl) (by decide) rfl (fun ls hl => ?_)
  refine lv_goto (tgt := 18) hA.1 hA.2.1 dL_law_1308 (by decide) ?_
  exact K p e s m below meth c b D aC B H ls locs hA hK hB hPC hPR hTC hTR hS (lv_sub hl [1, 2, 3, 0] rfl)
/-- the loop's head -/
theorem lw_head (hL : L ≤ 2048) (hi : i ≤ L + 4) (K : i + 4 ≤ L → lw_G l L xs 32 i (fun _ _ => [.int (xs i &&& 63)]) σC σR) : lw_G l L xs 18 i (fun _ _ => []) σC σR := by
  intro p e s m below meth c b D aC B H ls locs hA hK hB hPC hPR hTC hTR hS hl
  have hK' := fun h => K h p e s m below meth c b D aC B H ls locs hA hK hB hPC hPR hTC hTR hS hl
  obtain ⟨hx, hb, hr, hml, hown, hts, hX, hbl, hlocks, hgv⟩ := hA
  have hbA : ¬ (fun q : Nat => s.heap.size ≤ q) b := Nat.not_le.mpr hbl
  refine lv_iload_n hx hb dL_law_18 rfl (lv_at hl 3 rfl) ?_
  refine lv_aload_n hx hb dL_law_19 rfl (lv_at hl 0 rfl) ?_
  refine va_slen hx hb hX hbl hbA hS dL_law_20 ?_
  refine lv_iconst (v := nI 4) hx hb dL_law_21 (by decide) ?_
  refine lv_isub hx hb dL_law_22 ?_
  have e1 : (nI L - nI 4).toInt = (L : Int) - 4 := pk_sub_toInt (by omega) (by omega)
  refine lv_icmp_gt (tgt := 1311) hx hb dL_law_23 (by decide) (fun _ => ?_) (fun hc => ?_)
  · refine lv_iconst (v := 1) hx hb dL_law_1311 (by decide) ?_
    refine va_forget (fun q hq => hS.2.2 q hq) ?_
    refine W.widen (k := 600000) (n := 7302250) (by decide) (Nat.le_trans lw_tot (by decide)) ?_
    exact lw_ret hx hb hr hlocks dL_law_1312
  · have hle : i + 4 ≤ L := by
      have h1 : ¬ (nI L - nI 4).toInt < (nI i).toInt := fun z => hc (Int32.lt_iff_toInt_lt.mpr z)
      rw [e1, nI_toInt (by omega)] at h1
      omega
    refine lv_aload_n hx hb dL_law_26 rfl (lv_at hl 0 rfl) ?_
    refine lv_iload_n hx hb dL_law_27 rfl (lv_at hl 3 rfl) ?_
    refine va_sld hx hb hX hbl hbA hS (vp_in_nI (by omega) (by omega)) dL_law_28 ?_
    rw [nI_clamp (by omega)]
    refine lv_bipush (v := 63) hx hb dL_law_29 (by decide) ?_
    refine lv_iand hx hb dL_law_31 ?_
    exact hK' hle
end LWH
