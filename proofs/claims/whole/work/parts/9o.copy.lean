/-! ===== an array's clone; Arrays.copyOf ===== -/
abbrev clN : MethodName := ⟨"java/lang/Object", "clone", "()Ljava/lang/Object;"⟩
theorem w_c1 : Cond.sameMethod "[I" "java/lang/Object" "clone" "()Ljava/lang/Object;" ∈ lw_g := aw3 (List.mem_of_getElem? (i := 184) rfl) rfl
theorem w_c2 : Cond.native clN ∈ lw_g := aw3 (List.mem_of_getElem? (i := 185) rfl) rfl
theorem w_c3 : Cond.instanceMethod clN ∈ lw_g := aw3 (List.mem_of_getElem? (i := 186) rfl) rfl
theorem w_c4 : Cond.selects "[I" ⟨"[I", "clone", "()Ljava/lang/Object;"⟩ clN ∈ lw_g := aw3 (List.mem_of_getElem? (i := 187) rfl) rfl
/-- the memory with one cell more, of which what is said holds -/
def Gw (M M' : MM) (kd : Nat) (n : Int) (f : Int → Int) : Prop := mN M' = mN M + 1 ∧ (∀ b, mT M' b = if b = mN M then (kd, n) else mT M b) ∧ (∀ j, 0 ≤ j → j < n → rd M' (mN M) j = f j) ∧ ∀ b, b ≠ mN M → ∀ j, rd M' b j = rd M b j
section CP
variable {G : GG} {y : YY} {d k k2 n pc : Nat} {xs st : List PV} {M : MM} {Q : PV → MM → Prop}
theorem x_clone {r : Int} {idx N : Nat} (rest : List PV) (hd : decode y.2.1 pc = .ok (.invokevirtual idx, 3)) (hw : Cond.methodLink y.1.cls idx ⟨"[I", "clone", "()Ljava/lang/Object;"⟩ ∈ lw_g) (hr8 : (rest.map (fun x => if isL x then 2 else 1)).sum ≤ 8) (hd1 : 1 ≤ d) (ok : okO M r 20) (hN : (mT M r).2 = N) (hj : N + n ≤ k2)
    (kk : X G y d k n (pc + 3) xs (vA (mN M) :: rest) (al M 20 N (rd M r)) Q) : X G y d (k + 1) k2 pc xs (vA r :: rest) M Q := by
  intro p l e s m args below meth c H locs cells slots mc ms ls hF hk hn hl hR hS
  have hts := hF.2.2.2.2.2.1
  obtain ⟨a1, a2, a3⟩ := hR.arr ok.1 ok.2.1 ok.2.2 (by decide)
  rw [hN] at a1 a2 a3
  have hK := hR.2.2.2.1
  have hKd := KT_at hK (kd := 20) (by decide) (by decide)
  obtain ⟨-, kS, hkS, compS, hkindS⟩ := hKd.1 0 (fun _ => .null)
  have hnm : s.vm.findClass "[I" = some (gA G 20) := va_nm_int (show va_RA s (gA G 20) .int from hKd.2)
  obtain ⟨c0, t0', f1, f2, f3⟩ := Cond.castable_spec (va_Nw.use (A := args) rfl hF.2.2.2.2.2.2.2.2.1.2.2.2.2.2.2.2.2)
  have hcc : gA G 20 = c0 := Option.some.inj (hnm.symm.trans f1)
  rw [← hcc] at f3
  have hsz : (arrV (gA G 20) N (fun j => fV G (aT 20) (rd M r j))).slots.size = N := arrV_size _ _ _
  intro T hT XX
  have e0 : (((vA r : PV) :: rest).map (tV G)) = Value.ref (gB G + r.toNat) :: rest.map (tV G) := by
    rw [List.map_cons]; congr 1; exact rfV_pos ok.1
  rw [e0]
  have hcellT : T.heap[gB G + r.toNat]? = some (arrV (gA G 20) N (fun j => fV G (aT 20) (rd M r j))) := by rw [hT]; exact a3
  obtain ⟨-, kA, hkA, comp, hkind⟩ := State.isArrayOf_alike XX.warmed.alike (hKd.1 0 (fun _ => .null))
  obtain ⟨vm', X', stp⟩ := XX.cloneArray hF.1 hF.2.2.2.2.1 (hts _ hw) (hts _ w_c1) (hts _ w_c2) (hts _ w_c3) (hts _ w_c4) (a := gB G + r.toNat) hcellT (fun k h => by cases h) (fun h => by cases h) hnm f2 f3
    (fun i v hv => by
      show T.fitsSlot (gA G 20) .none i v = true
      have hk' : T.vm.classes[gA G 20]? = some kA := hkA
      have hf : fits .int v = true := va_fit (ty := .int) (fun i _ => rfl) i v hv
      have hkind' : kA.kind = .array comp .int := hkind
      simpa [State.fitsSlot, State.slotType?, hk', hkind'] using hf)
    (g := F0 m pc ls (.ref (gB G + r.toNat) :: rest.map (tV G))) rfl (hl.1.trans hF.2.2.2.1.symm) rfl (by rw [hF.2.1]; exact hd) hd1 (by rw [← vsum G] at hr8; show 2 * 0 + _ + 14 ≤ 64 * d; omega) (by show cells + 1 ≤ mc; omega) (by rw [hsz]; show slots + N ≤ ms; omega) (hloader := Vm.clonesLoader_of_array hkS hkindS)
  rw [hsz] at X'
  have hR1 : Rep G (al M 20 N (rd M r)) s (H.push (arrV (gA G 20) N (fun j => fV G (aT 20) (rd M r j)))) := hR.grow (Array.size_push ..) (fun q hq => by rw [Array.getElem?_push, if_neg (Nat.ne_of_lt hq)]) (by
    unfold cOK
    exact ⟨Nat.le_of_ble_eq_true rfl, Nat.le_of_ble_eq_true rfl, by show (0 : Int) ≤ N; omega, by show (N : Int) < _; omega, Array.getElem?_push_size ..⟩)
  have w := kk p l e s m args below meth c (H.push (arrV (gA G 20) N (fun j => fV G (aT 20) (rd M r j)))) locs (cells + 1) (slots + N) mc ms ls hF (by omega) (by omega) hl hR1 ⟨by rw [Array.size_push]; exact Nat.le_trans hS.1 (by omega), fun x h1 h2 => by rw [Array.getElem?_push, if_neg (by have := hS.1; omega)]; exact hS.2.1 x h1 h2, hS.2.2⟩
  obtain ⟨t, b1, b2⟩ := w ((T.setVm vm').pushCell (arrV (gA G 20) N (fun j => fV G (aT 20) (rd M r j)))) (by rw [← hT]; rfl) X'
  refine ⟨t, stp t ?_, b2⟩
  have e1 : tV G (vA (mN M)) = .ref T.heap.size := by
    show rfV G (mN M) = _
    rw [rfV_pos hR.1, hT, hR.2.1]
  rw [List.map_cons, e1] at b1
  exact b1
theorem x_castI {r : Int} {idx : Nat} (hd : decode y.2.1 pc = .ok (.checkcast idx, 3)) (hw : Cond.classLink y.1.cls idx "[I" ∈ lw_g) (ok : okO M r 20) (kk : X G y d k n (pc + 3) xs (vA r :: st) M Q) : X G y d k n pc xs (vA r :: st) M Q :=
  X.same (fun {p l e R s m args below meth c H locs cells slots Qm ls} hF hl hR hS w => by
    have hts := hF.2.2.2.2.2.1
    obtain ⟨a1, a2, a3⟩ := hR.arr ok.1 ok.2.1 ok.2.2 (by decide)
    have hKd := KT_at hR.2.2.2.1 (kd := 20) (by decide) (by decide)
    have hnm : s.vm.findClass "[I" = some (gA G 20) := va_nm_int (show va_RA s (gA G 20) .int from hKd.2)
    have e0 : (((vA r : PV) :: st).map (tV G)) = Value.ref (gB G + r.toNat) :: st.map (tV G) := by
      rw [List.map_cons]; congr 1; exact rfV_pos ok.1
    rw [e0] at w ⊢
    intro T hT XX
    obtain ⟨vm', X', stp⟩ := XX.checkcastYes hF.1 hF.2.2.2.2.1 (hts _ hw) (by rw [hT]; exact a3) rfl hnm (va_asg _ _) (g := F0 m pc ls (.ref (gB G + r.toNat) :: st.map (tV G))) rfl rfl (by rw [hF.2.1]; exact hd)
    obtain ⟨t, b1, b2⟩ := w (T.setVm vm') hT X'
    exact ⟨t, stp t b1, b2⟩) kk
theorem T_copyOf {a nI : Int} {N K : Nat} (oa : okO M a 20) (hnI : nI = N) (h1 : nI ≤ (mT M a).2) (hl : (mT M a).2 ≤ 1000000) (hK : N ≤ K) (hM : 0 ≤ mN M) (hd : 2 ≤ d) (h : ∀ M', Gw M M' 20 nI (rd M a) → Q (vA (mN M)) M') : C G Y_J7_copyOf_59c91 d 1 K [vA a, vI nI] M Q := by
  subst hnI
  have ho := oa.2.1
  have hd1 : 1 ≤ d := by omega
  refine X.entry (xs := [vA a, vI N, vU]) (by decide) (Nat.le_of_ble_eq_true rfl) rfl rfl rfl ?_
  refine x_iload_n (dA D_J7_copyOf_59c91 0 rfl) rfl ?_
  refine x_aload_n (dA D_J7_copyOf_59c91 1 rfl) rfl ?_
  refine x_alen (kd := 20) (by decide) (by decide) (dA D_J7_copyOf_59c91 2 rfl) oa ?_
  refine x_icmp_neP (tgt := 14) (dA D_J7_copyOf_59c91 3 rfl) rfl ⟨by omega, by omega⟩ ⟨by omega, by omega⟩ ⟨fun c => ?_, fun c => ?_⟩
  · refine x_iload_n (dA D_J7_copyOf_59c91 8 rfl) rfl ?_
    refine x_newa (kd := 20) (N := N) (n := 0) (k := 0) (Or.inl ⟨rfl, rfl⟩) (dA D_J7_copyOf_59c91 9 rfl) ac_int (by omega) (by omega) ?_
    refine x_astore_n (dA D_J7_copyOf_59c91 10 rfl) (by decide) (xs' := [vA a, vI N, vA (mN M)]) rfl ?_
    refine x_aload_n (dA D_J7_copyOf_59c91 11 rfl) rfl ?_
    refine x_iconst (dA D_J7_copyOf_59c91 12 rfl) ?_
    refine x_aload_n (dA D_J7_copyOf_59c91 13 rfl) rfl ?_
    refine x_iconst (dA D_J7_copyOf_59c91 14 rfl) ?_
    refine x_aload_n (dA D_J7_copyOf_59c91 15 rfl) rfl ?_
    have oa' : okO (al M 20 N (fun _ => 0)) a 20 := ⟨oa.1, by rw [mN_al]; omega, by rw [mT_al, if_neg (by omega)]; exact oa.2.2⟩
    have ob' : okO (al M 20 N (fun _ => 0)) (mN M) 20 := ⟨hM, by rw [mN_al]; omega, by rw [mT_al, if_pos rfl]⟩
    have la : (mT (al M 20 N (fun _ => 0)) a).2 = (mT M a).2 := by rw [mT_al, if_neg (by omega)]
    have lb : (mT (al M 20 N (fun _ => 0)) (mN M)).2 = N := by rw [mT_al, if_pos rfl]
    refine x_alenC (kd := 20) (by decide) (by decide) (dA D_J7_copyOf_59c91 16 rfl) oa' la ?_
    refine x_iload_n (dA D_J7_copyOf_59c91 17 rfl) rfl ?_
    refine x_mminI [vI 0, vA (mN M), vI 0, vA a] (dA D_J7_copyOf_59c91 18 rfl) ml_RJ7_304 (Nat.le_of_ble_eq_true rfl) hd1 ⟨by omega, by omega⟩ ⟨by omega, by omega⟩ ?_
    rw [if_pos (by omega)]
    refine x_copy 20 [] (by decide) (dA D_J7_copyOf_59c91 19 rfl) ⟨ml_RJ7_150, w_an, w_as, w_ai⟩ (by decide) hd1 oa' ob' (by decide) (by decide) (by omega) (by rw [la]; omega) (by rw [lb]; omega) (fun e => absurd e (by decide)) ?_
    refine x_aload_n (dA D_J7_copyOf_59c91 20 rfl) rfl ?_
    refine x_areturn (dA D_J7_copyOf_59c91 21 rfl) rfl (Or.inr ⟨_, rfl⟩) (h _ ⟨by rw [mN_cp, mN_al], fun b => by rw [mT_cp, mT_al], fun j j0 j1 => ?_, fun b hb j => ?_⟩)
    · rw [rd_cp, if_pos ⟨rfl, by omega, by omega⟩, rd_al, if_neg (by omega)]; congr 1; omega
    · rw [rd_cp, if_neg (fun q => hb q.1), rd_al, if_neg hb]
  · refine x_aload_n (dA D_J7_copyOf_59c91 4 rfl) rfl ?_
    refine x_clone (N := N) (k := 0) (n := 0) [] (dA D_J7_copyOf_59c91 5 rfl) ml_RJ7_316 (by decide) hd1 oa c.symm (by omega) ?_
    refine x_castI (dA D_J7_copyOf_59c91 6 rfl) kw_RJ7_317 ⟨hM, by rw [mN_al]; omega, by rw [mT_al, if_pos rfl]⟩ ?_
    refine x_areturn (dA D_J7_copyOf_59c91 7 rfl) rfl (Or.inr ⟨_, rfl⟩) (h _ ⟨by rw [mN_al], fun b => by rw [mT_al], fun j j0 j1 => by rw [rd_al, if_pos rfl], fun b hb j => by rw [rd_al, if_neg hb]⟩)
end CP
theorem X.wide {G : GG} {y : YY} {d k k2 n n2 pc : Nat} {xs st : List PV} {M : MM} {Q : PV → MM → Prop} (hk : k ≤ k2) (hn : n ≤ n2) (h : X G y d k n pc xs st M Q) : X G y d k2 n2 pc xs st M Q := by
  intro p l e s m args below meth c H locs cells slots mc ms ls hF h1 h2
  exact h p l e s m args below meth c H locs cells slots mc ms ls hF (by omega) (by omega)
