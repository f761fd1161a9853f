section R5
variable {G : GG} {y : YY} {d k k2 n pc pc2 pc3 : Nat} {xs xs' st st2 : List PV} {M M' : MM} {Q : PV → MM → Prop}
theorem x_oinit {idx : Nat} {r : Int} (rest : List PV) (hd : decode y.2.1 pc = .ok (.invokespecial idx, 3)) (hw : Cond.methodLink y.1.cls idx Lib.objectInit ∈ lw_g ∧ Cond.instanceMethod Lib.objectInit ∈ lw_g ∧ Cond.code Lib.objectInit ⟨#[0xb1]⟩ 1 none ∈ lw_g) (hr8 : (rest.map (fun x => if isL x then 2 else 1)).sum ≤ 8) (hd1 : 1 ≤ d) (h0 : 0 ≤ r) (kk : X G y d k n (pc + 3) xs rest M Q) : X G y d k n pc xs (vA r :: rest) M Q := by
  intro p l e s m args below meth c H locs cells slots mc ms ls hF hk hn hl hR hS
  have w := kk p l e s m args below meth c H locs cells slots mc ms ls hF hk hn hl hR hS
  have hts := hF.2.2.2.2.2.1
  show W p l e (rmD d mc ms) s m args below meth c H locs cells slots _ (F0 m pc ls (rfV G r :: rest.map (tV G)))
  rw [rfV_pos h0]
  have hlr := lv_room (m := m) (pc := pc) (ls := ls) (rest := Value.ref (gB G + r.toNat) :: rest.map (tV G)) (st := rest.map (tV G)) (by rw [vsum]; exact hr8)
  exact W.objInit hF.1 hF.2.1 hF.2.2.2.2.1 (hts _ hw.1) (hts _ hw.2.1) (hts _ hw.2.2) rfl (hl.1.trans hF.2.2.2.1.symm) rfl hd hd1 (by show _ ≤ 64 * d; omega) w
theorem x_getsL {idx : Nat} (hd : decode y.2.1 pc = .ok (.getstatic idx, 3)) (hw : Cond.fieldLink y.1.cls idx "StayPlay$Steps" "LIMBS" "[I" ∈ lw_g) (kk : X G y d k n (pc + 3) xs (vA (-3) :: st) M Q) : X G y d k n pc xs st M Q :=
  X.same (fun {p l e R s m args below meth c H locs cells slots Qm ls} hF hl hR hS w => by
    obtain ⟨cf, kf, fi, f, a, cell, h1, h2, h3, h4, h5, h6, h7, h8⟩ := hR.2.2.2.2.1
    exact W.gets hF.1 hF.2.1 hF.2.2.2.2.1 (hF.2.2.2.2.2.1 _ hw) h1 h2 h3 h4 h5 (fun e => by rw [e] at h6; cases h6) h7 rfl hd w) kk
theorem x_getsT {idx : Nat} (hd : decode y.2.1 pc = .ok (.getstatic idx, 3)) (hw : Cond.fieldLink y.1.cls idx "StayPlay$Digits" "TENS" "[J" ∈ lw_g) (kk : X G y d k n (pc + 3) xs (vA (-4) :: st) M Q) : X G y d k n pc xs st M Q :=
  X.same (fun {p l e R s m args below meth c H locs cells slots Qm ls} hF hl hR hS w => by
    obtain ⟨cf, kf, fi, f, a, cell, h1, h2, h3, h4, h5, h6, h7, h8⟩ := hR.2.2.2.2.2.2.1
    exact W.gets hF.1 hF.2.1 hF.2.2.2.2.1 (hF.2.2.2.2.2.1 _ hw) h1 h2 h3 h4 h5 (fun e => by rw [e] at h6; cases h6) h7 rfl hd w) kk
theorem tb_in {N : Nat} {t : Nat} {ty : FieldType} {f : Nat → Value} {U : State} {H : Heap} (hT : va_T ty t N f (gR G) U H) {i : Int} (h0 : 0 ≤ i) (h1 : i < N) (hN : N < 2147483648) : ∃ cell : Cell, H[t]? = some cell ∧ U.isArrayOf cell ty ∧ cell.vm ≠ .unknown ∧ ¬ (Int32.ofInt i < 0 ∨ cell.slots.size ≤ (Int32.ofInt i).toNatClampNeg) ∧ cell.slots[(Int32.ofInt i).toNatClampNeg]? = some (f i.toNat) := by
  obtain ⟨cell, q1, q2, q3, q4, q5, q6, q7⟩ := hT
  refine ⟨cell, q1, q2, q3, ?_, ?_⟩
  · have h := ix_in (i := i) (N := N) h0 (by omega) (by omega)
    exact fun q => h (q.imp id (fun z => Nat.le_trans q4 z))
  · rw [ixN h0 (by omega)]; exact q6 _ (by omega)
theorem x_tabL {i : Int} (hd : decode y.2.1 pc = .ok (.iaload, 1)) (h0 : 0 ≤ i) (h1 : i < 6) (kk : X G y d k n (pc + 1) xs (vI (limF i.toNat) :: st) M Q) : X G y d k n pc xs (vI i :: vA (-3) :: st) M Q :=
  X.same (fun {p l e R s m args below meth c H locs cells slots Qm ls} hF hl hR hS w => by
    obtain ⟨cell, q1, q2, q3, q4, q5⟩ := tb_in hR.2.2.2.2.2.1 h0 h1 (by decide)
    exact W.iald hF.1 hF.2.1 q1 q2 q3 q4 q5 rfl rfl hd w) kk
theorem x_tabT {i : Int} (hd : decode y.2.1 pc = .ok (.laload, 1)) (h0 : 0 ≤ i) (h1 : i < 8) (kk : X G y d k n (pc + 1) xs (vL (tenF i.toNat) :: st) M Q) : X G y d k n pc xs (vI i :: vA (-4) :: st) M Q :=
  X.same (fun {p l e R s m args below meth c H locs cells slots Qm ls} hF hl hR hS w => by
    obtain ⟨cell, q1, q2, q3, q4, q5⟩ := tb_in hR.2.2.2.2.2.2.2.1 h0 h1 (by decide)
    exact W.lald hF.1 hF.2.1 q1 q2 q3 q4 q5 rfl rfl hd w) kk
theorem x_scr {i : Int} (hd : decode y.2.1 pc = .ok (.iaload, 1)) (hL : gL G < 2147483648) (h0 : 0 ≤ i) (h1 : i < gL G) (kk : X G y d k n (pc + 1) xs (vI (gX G i.toNat) :: st) M Q) : X G y d k n pc xs (vI i :: vA (-2) :: st) M Q :=
  X.same (fun {p l e R s m args below meth c H locs cells slots Qm ls} hF hl hR hS w => by
    obtain ⟨cell, q1, q2, q3, q4, q5⟩ := tb_in hR.2.2.2.2.2.2.2.2.2.2 h0 h1 hL
    exact W.iald hF.1 hF.2.1 q1 q2 q3 q4 q5 rfl rfl hd w) kk
theorem x_scrlen (hd : decode y.2.1 pc = .ok (.arraylength, 1)) (kk : X G y d k n (pc + 1) xs (vI (gL G) :: st) M Q) : X G y d k n pc xs (vA (-2) :: st) M Q :=
  X.same (fun {p l e R s m args below meth c H locs cells slots Qm ls} hF hl hR hS w => by
    obtain ⟨cell, q1, q2, q3, q4, q5, q6, q7⟩ := hR.2.2.2.2.2.2.2.2.2.2
    refine W.alen (n := Int32.ofInt (gL G)) hF.1 hF.2.1 q1 q2 ?_ rfl rfl hd w
    rw [q5, Int32.ofInt_eq_ofNat]) kk
theorem X.writeG {r : Int} (h0 : 0 ≤ r) (hN : mN M' = mN M) (hT : ∀ b, mT M' b = mT M b) (hr : ∀ b : Int, b ≠ r → ∀ j, rd M' b j = rd M b j) (hd1 : 1 ≤ d)
    (h : ∀ {p : Program} {l : Launch} {e : Env} {R : Room} {s : State} {m : MethodId} {args : Array Value} {below : List Frame} {meth : Method} {c : Code} {H : Heap} {locs : List Loc} {cells slots : Nat} {Qm : State → Prop} {ls : Array Slot},
      Fx G y p s m args meth c → LV G ls y.2.2.1 xs → Rep G M s H → va_S (gR G) s.heap H locs → 1 ≤ R.frames → 64 ≤ R.locals → (∀ (H1 : Heap) (L : List Loc), (∀ q ∈ L, q.base = gB G + r.toNat) → H1.size = H.size → (∀ q : Nat, q ≠ gB G + r.toNat → H1[q]? = H[q]?) → (r < mN M → cOK G H1 (gB G + r.toNat) (mT M r) (rd M' r)) →
        W p l e R s m args below meth c H1 (locs ++ L) cells slots Qm (F0 m pc2 ls (st2.map (tV G)))) → W p l e R s m args below meth c H locs cells slots Qm (F0 m pc ls (st.map (tV G))))
    (kk : X G y d k n pc2 xs st2 M' Q) : X G y d k n pc xs st M Q := by
  intro p l e s m args below meth c H locs cells slots mc ms ls hF hk hn hl hR hS
  refine h hF hl hR hS hd1 (by show 64 ≤ 64 * d; omega) (fun H1 L hL z oq he => kk p l e s m args below meth c H1 _ cells slots mc ms ls hF hk hn hl (hR.keep h0 hN hT hr z oq he) ⟨by rw [z]; exact hS.1, fun q h1 h2 => ?_, fun q hq => ?_⟩)
  · rw [oq q (fun e => h2 (by show gB G ≤ q; omega))]; exact hS.2.1 q h1 h2
  · rcases List.mem_append.mp hq with h | h
    · exact hS.2.2 q h
    · show gB G ≤ q.base; rw [hL q h]; omega
/-- System.arraycopy -/
theorem x_copy {idx : Nat} {a b i j c : Int} (kd : Nat) (rest : List PV) (hkd : kd = 20 ∨ kd = 21 ∨ kd = 24) (hd : decode y.2.1 pc = .ok (.invokestatic idx, 3)) (hw : Cond.methodLink y.1.cls idx arraycopyName ∈ lw_g ∧ Cond.native arraycopyName ∈ lw_g ∧ Cond.static arraycopyName ∈ lw_g ∧ Cond.initialized "java/lang/System" ∈ lw_g) (hr8 : (rest.map (fun x => if isL x then 2 else 1)).sum ≤ 8) (hd1 : 1 ≤ d)
    (oa : okO M a kd) (ob : okO M b kd) (hi : 0 ≤ i) (hj : 0 ≤ j) (hc : 0 ≤ c) (h1 : i + c ≤ (mT M a).2) (h2 : j + c ≤ (mT M b).2) (hel : kd = 24 → ∀ q, i ≤ q → q < i + c → rd M a q = -1 ∨ okO M (rd M a q) 4)
    (kk : X G y d k n (pc + 3) xs rest (cpM M a i b j c) Q) : X G y d k n pc xs (vI c :: vI j :: vA b :: vI i :: vA a :: rest) M Q :=
  X.writeG (r := b) (M' := cpM M a i b j c) ob.1 rfl (fun _ => rfl) (fun q hq j' => by rw [rd_cp, if_neg (fun z => hq z.1)]) hd1 (fun {p l e R s m args below meth cc H locs cells slots Qm ls} hF hl hR hS hfr hlo w => by
    have hts := hF.2.2.2.2.2.1
    obtain ⟨a1, a2, a3⟩ := hR.arr oa.1 oa.2.1 oa.2.2 (by omega)
    obtain ⟨b1, b2, b3⟩ := hR.arr ob.1 ob.2.1 ob.2.2 (by omega)
    have hK := hR.2.2.2.1
    have hKd := KT_at hK (kd := kd) (by omega) (by omega)
    obtain ⟨-, k0, hk0, cm0, hkk0⟩ := hKd.1 (mT M a).2.toNat (fun j => fV G (aT kd) (rd M a j))
    show W p l e R s m args below meth cc H locs cells slots Qm (F0 m pc ls (.int (Int32.ofInt c) :: .int (Int32.ofInt j) :: rfV G b :: .int (Int32.ofInt i) :: rfV G a :: rest.map (tV G)))
    rw [rfV_pos oa.1, rfV_pos ob.1]
    have ei := ixN hi (by omega)
    have ej := ixN hj (by omega)
    have ec := ixN hc (by omega)
    have ti := inR_to (a := i) ⟨by omega, by omega⟩
    have tj := inR_to (a := j) ⟨by omega, by omega⟩
    have tc := inR_to (a := c) ⟨by omega, by omega⟩
    have ng : ∀ {z : Int}, 0 ≤ z → z < 2147483648 → ¬ Int32.ofInt z < 0 := fun hz hz2 q => by
      have := (lt_32 (b := 0) ⟨by omega, by omega⟩ inR_0).mp q
      omega
    intro T hT XX
    obtain ⟨vm', X', step⟩ := XX.arraycopy hF.1 hF.2.2.2.2.1 (hts _ hw.1) (hts _ hw.2.1) (hts _ hw.2.2.1) (hts _ hw.2.2.2) (src := gB G + a.toNat) (dst := gB G + b.toNat) (cs := arrV (gA G kd) (mT M a).2.toNat (fun j => fV G (aT kd) (rd M a j))) (cd := arrV (gA G kd) (mT M b).2.toNat (fun j => fV G (aT kd) (rd M b j))) (srcPos := Int32.ofInt i) (destPos := Int32.ofInt j) (n := Int32.ofInt c) (by rw [hT]; exact a3) (by rw [hT]; exact b3)
      (fun _ h => by cases h) (fun _ h => by cases h) (fun h => by cases h) (fun h => by cases h) hk0 hk0 hkk0 hkk0 (by rcases hkd with rfl | rfl | rfl <;> rfl) (ng hi (by omega)) (ng hj (by omega)) (ng hc (by omega))
      (by rw [ti, tc, arrV_size]; omega) (by rw [tj, tc, arrV_size]; omega)
      (fun vm₁ hal q hq => by
        rw [ec] at hq
        have e : (arrV (gA G kd) (mT M a).2.toNat (fun j => fV G (aT kd) (rd M a j))).slots.getD ((Int32.ofInt i).toNatClampNeg + q) .null = fV G (aT kd) (rd M a (i + q)) := by
          rw [ei, Array.getD_eq_getD_getElem?, arrV_read _ _ (by omega)]
          show fV G (aT kd) (rd M a ((i.toNat + q : Nat) : Int)) = _
          rw [show ((i.toNat + q : Nat) : Int) = i + q by omega]
        rw [e]
        rcases hkd with rfl | rfl | rfl
        · exact ⟨rfl, trivial⟩
        · exact ⟨rfl, trivial⟩
        · rcases hel rfl (i + q) (by omega) (by omega) with z | z
          · rw [z]; exact ⟨rfl, trivial⟩
          · obtain ⟨cellV, g1, g2, g3, -⟩ := hR.obj z (by decide)
            have hcls := (hK.1 4 _ rfl).2
            obtain ⟨kA, comp, r1, r2, r3, -⟩ := hKd.2
            cases hk0.symm.trans r1
            cases hkk0.symm.trans r2
            have hcomp := Option.some.inj (r3.symm.trans hcls.1)
            obtain ⟨kC, hkC, -⟩ := hcls.2
            obtain ⟨kC', hkC', -⟩ := hal.2.2 _ _ hkC
            rw [show fV G (aT 24) (rd M a (i + q)) = rfV G (rd M a (i + q)) from rfl, rfV_pos z.1]
            refine ⟨rfl, cellV, (show T.heap[_]? = some cellV by rw [hT]; exact g1), (fun q h => by rw [g3] at h; cases h), ⟨kC', by rw [g2]; exact hkC'⟩, ⟨kC', by rw [hcomp]; exact hkC'⟩, ?_⟩
            show vm₁.assignable _ _ = true
            rw [hal.assignable, g2, hcomp]
            exact va_assign hcls)
      (g := F0 m pc ls (.int (Int32.ofInt c) :: .int (Int32.ofInt j) :: .ref (gB G + b.toNat) :: .int (Int32.ofInt i) :: .ref (gB G + a.toNat) :: rest.map (tV G))) rfl (hl.1.trans hF.2.2.2.1.symm) (rest := rest.map (tV G)) rfl (by rw [hF.2.1]; exact hd) hfr (by
        have hz : nativeFrameWords "java/lang/System" "arraycopy" 5 ≤ 40 := by decide +kernel
        rw [← vsum G] at hr8
        show 2 * 0 + _ + _ ≤ _
        omega)
    have e1 : copied (arrV (gA G kd) (mT M a).2.toNat (fun j => fV G (aT kd) (rd M a j))) (arrV (gA G kd) (mT M b).2.toNat (fun j => fV G (aT kd) (rd M b j))) (Int32.ofInt i) (Int32.ofInt j) (Int32.ofInt c) = arrV (gA G kd) (mT M b).2.toNat (fun q => fV G (aT kd) (rd (cpM M a i b j c) b q)) := by
      refine (va_copied (fun z : Int => fV G (aT kd) z) (gA G kd) (gA G kd) (fun q => rd M a q) (fun q => rd M b q) (by rw [ei, ec]; omega)).trans ?_
      congr 1
      funext q
      congr 1
      rw [ei, ej, ec, rd_cp]
      simp only [va_cpy]
      by_cases hq : j.toNat ≤ q ∧ q < j.toNat + c.toNat
      · rw [if_pos hq, if_pos ⟨trivial, by omega, by omega⟩]
        congr 1
        omega
      · rw [if_neg hq, if_neg (fun z => hq ⟨by omega, by omega⟩)]
    rw [e1] at X' step
    have hlt : gB G + b.toNat < H.size := (Array.getElem?_eq_some_iff.mp b3).1
    have hheap : ((T.setVm vm').setCell (gB G + b.toNat) (arrV (gA G kd) (mT M b).2.toNat (fun q => fV G (aT kd) (rd (cpM M a i b j c) b q)))).heap = H.setIfInBounds (gB G + b.toNat) (arrV (gA G kd) (mT M b).2.toNat (fun q => fV G (aT kd) (rd (cpM M a i b j c) b q))) := by rw [← hT]; rfl
    obtain ⟨t, t1, t2⟩ := w _ _ (fun q hq => by obtain ⟨z, -, hz⟩ := List.mem_map.mp hq; rw [← hz]) (by rw [hheap]; simp) (fun q hq => by rw [hheap]; simp [Array.getElem?_setIfInBounds, Ne.symm hq]) (fun _ => by
      unfold cOK
      rw [ob.2.2, if_neg (by omega)]
      exact ⟨by omega, by omega, b1, b2, by rw [hheap]; simp [Array.getElem?_setIfInBounds, hlt]⟩) _ rfl X'
    exact ⟨t, step t t1, t2⟩) kk
end R5
