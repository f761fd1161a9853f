section R4
variable {G : GG} {y : YY} {d k k2 n pc pc2 pc3 : Nat} {xs xs' st st2 : List PV} {M : MM} {Q : PV → MM → Prop}
theorem dV_ok (G : GG) (t : FieldType) (h : t = .int ∨ t = .long ∨ t = .boolean ∨ (∃ c, t = .object c) ∨ ∃ c, t = .array c) : fV G t (dV t) = defaultValue t := by
  rcases h with rfl | rfl | rfl | ⟨c, rfl⟩ | ⟨c, rfl⟩ <;> rfl
/-- newarray of ints, longs, booleans; its size is a number -/
theorem x_newa {kd : Nat} {at' : ArrayType} {N : Nat} (hkd : (kd = 20 ∧ at' = .int) ∨ (kd = 21 ∧ at' = .long) ∨ (kd = 22 ∧ at' = .boolean)) (hd : decode y.2.1 pc = .ok (.newarray at', 2)) (hw : Cond.arrayClass (newarray.typeOf at') ∈ lw_g) (hN : N ≤ 1000000) (hj : N + n ≤ k2)
    (kk : X G y d k n (pc + 2) xs (vA (mN M) :: st) (al M kd N (fun _ => 0)) Q) : X G y d (k + 1) k2 pc xs (vI N :: st) M Q :=
  X.make hj (fun {p l e R s m args below meth c H locs cells slots Qm ls} hF hR hc hs w => by
    have hn0 : ¬ (Int32.ofInt (N : Int)) < 0 := fun q => by
      have := (lt_32 (a := N) (b := 0) ⟨by omega, by omega⟩ inR_0).mp q
      omega
    have hNn : (Int32.ofInt (N : Int)).toNatClampNeg = N := by rw [ixN (by omega) (by omega)]; omega
    show W p l e R s m args below meth c H locs cells slots Qm (F0 m pc ls (.int (Int32.ofInt N) :: st.map (tV G)))
    refine va_newaK hF.1 hF.2.1 (hF.2.2.2.2.2.1 _ hw) rfl hd rfl hn0 hNn (by rcases hkd with ⟨-, rfl⟩ | ⟨-, rfl⟩ | ⟨-, rfl⟩ <;> simp [newarray.typeOf, componentBytes] <;> omega) hc hs rfl (fun H1 cA e1 z1 o1 hAr hNm => w H1 z1 o1 ?_)
    unfold cOK
    have hK := hR.2.2.2.1
    rcases hkd with ⟨rfl, rfl⟩ | ⟨rfl, rfl⟩ | ⟨rfl, rfl⟩
    · have h := (KT_at hK (kd := 20) (by decide) (by decide)).2
      have hcA : cA = gA G 20 := Option.some.inj (hNm.symm.trans h)
      subst hcA
      exact ⟨Nat.le_of_ble_eq_true rfl, Nat.le_of_ble_eq_true rfl, by show (0 : Int) ≤ N; omega, by show (N : Int) < _; omega, e1⟩
    · have h := (KT_at hK (kd := 21) (by decide) (by decide)).2
      have hcA : cA = gA G 21 := Option.some.inj (hNm.symm.trans h)
      subst hcA
      exact ⟨Nat.le_of_ble_eq_true rfl, Nat.le_of_ble_eq_true rfl, by show (0 : Int) ≤ N; omega, by show (N : Int) < _; omega, e1⟩
    · have h := (KT_at hK (kd := 22) (by decide) (by decide)).2
      have hcA : cA = gA G 22 := Option.some.inj (hNm.symm.trans h)
      subst hcA
      exact ⟨Nat.le_of_ble_eq_true rfl, Nat.le_of_ble_eq_true rfl, by show (0 : Int) ≤ N; omega, by show (N : Int) < _; omega, e1⟩) kk
theorem x_newq {kd : Nat} {N idx : Nat} {Cn : String} (hkd : (kd = 23 ∧ Cn = "StayPlay$House") ∨ (kd = 24 ∧ Cn = "StayPlay$Law")) (hd : decode y.2.1 pc = .ok (.anewarray idx, 3)) (hw : Cond.classLink y.1.cls idx Cn ∈ lw_g) (hN : N ≤ 1000000) (hj : N + n ≤ k2)
    (kk : X G y d k n (pc + 3) xs (vA (mN M) :: st) (al M kd N (fun _ => -1)) Q) : X G y d (k + 1) k2 pc xs (vI N :: st) M Q :=
  X.make hj (fun {p l e R s m args below meth c H locs cells slots Qm ls} hF hR hc hs w => by
    have hn0 : ¬ (Int32.ofInt (N : Int)) < 0 := fun q => by
      have := (lt_32 (a := N) (b := 0) ⟨by omega, by omega⟩ inR_0).mp q
      omega
    have hNn : (Int32.ofInt (N : Int)).toNatClampNeg = N := by rw [ixN (by omega) (by omega)]; omega
    show W p l e R s m args below meth c H locs cells slots Qm (F0 m pc ls (.int (Int32.ofInt N) :: st.map (tV G)))
    have hAO : va_AO Cn s := by
      rcases hkd with ⟨-, rfl⟩ | ⟨-, rfl⟩
      · exact hF.2.2.2.2.2.2.2.2.1.2.2.2.2.2.1
      · exact hF.2.2.2.2.2.2.2.2.1.2.2.2.2.2.2.1
    refine W.anew hF.1 hF.2.1 hF.2.2.2.2.1 (hF.2.2.2.2.2.1 _ hw) (va_AO.use hAO) rfl hd rfl hn0 (by rw [hNn]; omega) hc (by rw [hNn]; exact hs) (fun cA kA comp f1 f2 f3 f4 => ?_)
    rw [hNn]
    refine w _ (Array.size_push ..) (fun q hq => by rw [Array.getElem?_push, if_neg (Nat.ne_of_lt hq)]) ?_
    unfold cOK
    have hK := hR.2.2.2.1
    rcases hkd with ⟨rfl, rfl⟩ | ⟨rfl, rfl⟩
    · obtain ⟨-, -, -, -, -, h⟩ := (KT_at hK (kd := 23) (by decide) (by decide)).2
      have hcA : cA = gA G 23 := Option.some.inj (f1.symm.trans h)
      subst hcA
      exact ⟨Nat.le_of_ble_eq_true rfl, Nat.le_of_ble_eq_true rfl, by show (0 : Int) ≤ N; omega, by show (N : Int) < _; omega, by rw [Array.getElem?_push_size, arrV_new]; rfl⟩
    · obtain ⟨-, -, -, -, -, h⟩ := (KT_at hK (kd := 24) (by decide) (by decide)).2
      have hcA : cA = gA G 24 := Option.some.inj (f1.symm.trans h)
      subst hcA
      exact ⟨Nat.le_of_ble_eq_true rfl, Nat.le_of_ble_eq_true rfl, by show (0 : Int) ≤ N; omega, by show (N : Int) < _; omega, by rw [Array.getElem?_push_size, arrV_new]; rfl⟩) kk
/-- a class's words for 'new' -/
def nW (own : String) (kd idx : Nat) : Prop := ∃ (Cn : String) (T : u_T), vwCl[kd]? = some (Cn, T, kN kd) ∧ kd < 12 ∧ (∀ w ∈ u_ws Cn T (kN kd), w ∈ lw_g) ∧ Cond.classLink own idx Cn ∈ lw_g ∧ Cond.instantiable Cn (kN kd) ∈ lw_g ∧ Cond.initialized Cn ∈ lw_g ∧ (∀ k, k < kN kd → parseFieldDescriptor (T k).2.2.1 = some (fT kd k)) ∧ ∀ (G : GG) (j : Nat), j < kN kd → fV G (fT kd j) (dV (fT kd j)) = defaultValue (fT kd j)
theorem x_new {kd idx : Nat} (hd : decode y.2.1 pc = .ok (.new idx, 3)) (hw : nW y.1.cls kd idx) (hj : kN kd + n ≤ k2)
    (kk : X G y d k n (pc + 3) xs (vA (mN M) :: st) (al M kd (kN kd) (fun j => dV (fT kd j.toNat))) Q) : X G y d (k + 1) k2 pc xs st M Q :=
  X.make hj (fun {p l e R s m args below meth c H locs cells slots Qm ls} hF hR hc hs w => by
    obtain ⟨Cn, T, hcl, hk, hin, hlk, hins, hini, hty, hdv⟩ := hw
    have hts := hF.2.2.2.2.2.1
    have hKn := hR.2.2.2.1.1 kd _ hcl
    refine W.newcK hF.1 hF.2.1 hF.2.2.2.2.1 (hts _ hlk) (hts _ hins) (hts _ hini) rfl hd hc hs hKn.2.1 rfl (fun H1 kC hkC e1 z1 o1 => w H1 z1 o1 ?_)
    unfold cOK
    rw [if_pos hk]
    refine (u_born (fT kd) hts hin hKn hkC e1 hty).to (fun j hj => ?_)
    show _ = fV G (fT kd j) (dV (fT kd ((j : Int).toNat)))
    rw [show ((j : Int).toNat) = j by omega, hdv G j hj]) kk
/-! ===== calls ===== -/
theorem FrameB {as : List PV} : FrameBlind (va_Pc (as.map (tV G)) (fun U => Rep G M U U.heap ∧ NN G U)) := fun a U g mk h => ⟨h.1, Rep.moved (u := U) (U := U.calling g mk a) (Vm.Alike.refl U.vm) h.2.1, NN.same (u := U) (U := U.calling g mk a) rfl h.2.2⟩
/-- what a call needs of the words -/
def cB (z : YY) (np : Nat) : Prop := Cond.code z.1 z.2.1 z.2.2.1 z.2.2.2 ∈ lw_g ∧ Cond.initialized z.1.cls ∈ lw_g ∧ (z.1.cls ≠ "java/lang/invoke/MethodHandle" ∧ z.1.cls ≠ "java/lang/invoke/VarHandle" ∧ (parseMethodDescriptor z.1.desc).map (fun d => d.parameters.length) = some np) ∧ z.2.2.1 ≤ 45
theorem cB_ws {z : YY} (h : Cond.code z.1 z.2.1 z.2.2.1 z.2.2.2 ∈ lw_g) : GoodIn lw_g (wsO z) := fun w hw => by
  rcases List.mem_cons.mp hw with rfl | hw
  · exact lw_gg _ h
  · exact lw_gg _ hw
theorem vsum (G : GG) (r : List PV) : ((r.map (tV G)).map fun v => v.category).sum = (r.map (fun x => if isL x then 2 else 1)).sum := by
  rw [List.map_map]
  congr 1
  apply List.map_congr_left
  intro x _
  simp [tV_cat]
theorem X.call {kz nz : Nat} {rest as : List PV} {Q' : PV → MM → Prop}
    (hk : kz + k ≤ k2) {n2 : Nat} (hn : nz + n ≤ n2)
    (h : ∀ {p : Program} {l : Launch} {e : Env} {s : State} {m : MethodId} {args : Array Value} {below : List Frame} {meth : Method} {c : Code} {H : Heap} {locs : List Loc} {cells slots mc ms : Nat} {ls : Array Slot},
      Fx G y p s m args meth c → LV G ls y.2.2.1 xs → Rep G M s H → cells + kz ≤ mc → slots + nz ≤ ms → va_Run p l e (rmD d mc ms) s m args below meth c H locs cells slots kz nz (F0 m pc ls (st.map (tV G))) (rest.map (tV G)) (QQ G Q' (as.map (tV G)).toArray) (gR G))
    (kk : ∀ (v : PV) (M' : MM), Q' v M' → X G y d k n (pc + 3) xs (if isU v then rest else v :: rest) M' Q) : X G y d k2 n2 pc xs st M Q := by
  intro p l e s m args below meth c H locs cells slots mc ms ls hF hk2 hn2 hl hR hS
  intro T hT XX
  obtain ⟨v, st₀, t, T', L, h0, X', hL, e1, e2, ⟨⟨v', M', hv, hQ, hR'⟩, hz, hkp⟩, go⟩ := h hF hl hR (by omega) (by omega) T hT XX
  cases hv
  rw [h0] at hz hkp
  have hal : s.vm.Alike T'.vm := X'.warmed.alike
  have hRs : Rep G M' s T'.heap := by
    rw [e1]
    refine Rep.moved (u := t) ?_ hR'
    rw [← e2]
    exact hal.symm
  have hS' : va_S (gR G) s.heap T'.heap (locs ++ L) := ⟨Nat.le_trans hS.1 (by rw [e1]; exact hz), fun q h1 h2 => by rw [e1, hkp q (Nat.lt_of_lt_of_le h1 hS.1) h2]; exact hS.2.1 q h1 h2, fun q hq => by
    rcases List.mem_append.mp hq with h | h
    · exact hS.2.2 q h
    · exact hL q h⟩
  obtain ⟨t2, a1, b1⟩ := kk v' M' hQ p l e s m args below meth c T'.heap (locs ++ L) (cells + kz) (slots + nz) mc ms ls hF (by omega) (by omega) hl hRs hS' T' rfl X'
  refine ⟨t2, go t2 ?_, b1⟩
  have e3 : ((oV G v').toList ++ rest.map (tV G)) = (if isU v' then rest else v' :: rest).map (tV G) := by
    rcases v' with a | a | a | a <;> rfl
  rw [e3]
  exact a1
theorem C.mono {z : YY} {kz nz : Nat} {as : List PV} {Q1 Q2 : PV → MM → Prop} (h : C G z d kz nz as M Q1) (hq : ∀ v M', Q1 v M' → Q2 v M') : C G z d kz nz as M Q2 := fun l =>
  MetFree.mono (h l) (fun _ _ q => q) (fun _ _ _ _ _ q => q) (fun a st o t _ q => ⟨⟨by obtain ⟨⟨v, M', e1, e2, e3⟩, -⟩ := q.1; exact ⟨v, M', e1, hq v M' e2, e3⟩, q.1.2⟩, q.2⟩)
def cV (own : String) (z : YY) (idx np : Nat) : Prop := cB z np ∧ Cond.methodLink own idx z.1 ∈ lw_g ∧ Cond.instanceMethod z.1 ∈ lw_g ∧ Cond.selects z.1.cls z.1 z.1 ∈ lw_g
def cS (own : String) (z : YY) (idx np : Nat) : Prop := cB z np ∧ Cond.methodLink own idx z.1 ∈ lw_g ∧ Cond.static z.1 ∈ lw_g
def cI (own : String) (z : YY) (idx np : Nat) : Prop := cB z np ∧ Cond.methodLink own idx z.1 ∈ lw_g ∧ Cond.instanceMethod z.1 ∈ lw_g ∧ z.1.name = "<init>" ∧ z.2.2.2 = none
def cVN (own : String) (z : YY) (idx np : Nat) : Prop := cB z np ∧ (∀ (G : GG) (U : State), NN G U → va_Nw (.methodLinkNest own idx z.1 "StayPlay") U) ∧ Cond.instanceMethod z.1 ∈ lw_g ∧ Cond.selects z.1.cls z.1 z.1 ∈ lw_g
def cIN (own : String) (z : YY) (idx np : Nat) : Prop := cB z np ∧ (∀ (G : GG) (U : State), NN G U → va_Nw (.methodLinkNest own idx z.1 "StayPlay") U) ∧ Cond.instanceMethod z.1 ∈ lw_g ∧ z.1.name = "<init>" ∧ z.2.2.2 = none
theorem rm_ok {z : YY} {kz nz mc ms : Nat} (hd1 : 1 ≤ d) (hL : z.2.2.1 ≤ 45) : (rmD (d - 1) kz nz).frames + 1 ≤ (rmD d mc ms).frames ∧ 8 + (z.2.2.1 + 11) + (rmD (d - 1) kz nz).locals ≤ (rmD d mc ms).locals := by
  show d - 1 + 1 ≤ d ∧ 8 + (z.2.2.1 + 11) + 64 * (d - 1) ≤ 64 * d
  omega
theorem rvok {s : State} {H : Heap} {r : Int} {kd : Nat} {Cn : String} {T : u_T} (hR : Rep G M s H) (ok : okO M r kd) (hk : kd < 12) (hc : vwCl[kd]? = some (Cn, T, kN kd)) : ∃ cellB : Cell, H[gB G + r.toNat]? = some cellB ∧ cellB.vm.isStatics = false ∧ s.vm.findClass Cn = some cellB.cls := by
  obtain ⟨cell, q1, q2, q3, -⟩ := hR.obj ok hk
  exact ⟨cell, q1, by rw [q3]; rfl, by rw [q2]; exact (hR.2.2.2.1.1 kd _ hc).2.1⟩
theorem x_callV {z : YY} {idx np kz nz n2 : Nat} (kd : Nat) {r : Int} (as rest : List PV) {Q' : PV → MM → Prop} (hd : decode y.2.1 pc = .ok (.invokevirtual idx, 3)) (hw : cV y.1.cls z idx np) (hst : st = as.reverse ++ vA r :: rest) (hnp : as.length = np) (hr8 : (rest.map (fun x => if isL x then 2 else 1)).sum ≤ 8) {T : u_T} (hk12 : kd < 12) (hc : vwCl[kd]? = some (z.1.cls, T, kN kd)) (hd1 : 1 ≤ d)
    (hk : kz + k ≤ k2) (hn : nz + n ≤ n2) (ok : okO M r kd) (hC : C G z (d - 1) kz nz (vA r :: as) M Q') (kk : ∀ (v : PV) (M' : MM), Q' v M' → X G y d k n (pc + 3) xs (if isU v then rest else v :: rest) M' Q) : X G y d k2 n2 pc xs st M Q := by
  subst hst
  refine X.call (as := vA r :: as) (rest := rest) hk hn (fun {p l e s m args below meth c H locs cells slots mc ms ls} hF hl hR hcm hsm => ?_) kk
  obtain ⟨⟨h1, h2, h3, h4⟩, h5, h6, h7⟩ := hw
  have hts := hF.2.2.2.2.2.1
  have eA : ((vA r :: as).map (tV G)) = Value.ref (gB G + r.toNat) :: as.map (tV G) := by
    rw [List.map_cons]; congr 1; exact rfV_pos ok.1
  rw [eA]
  refine va_runV (Ts := lw_g) (b := gB G + r.toNat) (As := as.map (tV G)) (nL := y.2.2.1) ⟨hF.1, hF.2.1, hF.2.2.2.1, hF.2.2.2.2.1, hts⟩ (hC l) ⟨callB_of np hts (cB_ws h1) rfl rfl rfl (hts _ h2) (hts _ h5) h3 (rm_ok hd1 h4), hts _ h6, hts _ h7⟩ ⟨FrameB, rvok hR ok hk12 hc, fun U hU hW => ⟨by rw [eA], by rw [hU]; exact hR.moved hW.alike, hF.2.2.2.2.2.2.2.2.1.warm hW⟩⟩ rfl (by rw [List.length_map]; exact hnp) hl.1 ?_ (lv_room (by rw [vsum]; exact hr8)) hd ⟨hcm, hsm⟩
  rw [List.map_append, List.map_reverse, List.map_cons]
  show (as.map (tV G)).reverse ++ rfV G r :: rest.map (tV G) = _
  rw [rfV_pos ok.1]
theorem x_callVN {z : YY} {idx np kz nz n2 : Nat} (kd : Nat) {r : Int} (as rest : List PV) {Q' : PV → MM → Prop} (hd : decode y.2.1 pc = .ok (.invokevirtual idx, 3)) (hw : cVN y.1.cls z idx np) (hst : st = as.reverse ++ vA r :: rest) (hnp : as.length = np) (hr8 : (rest.map (fun x => if isL x then 2 else 1)).sum ≤ 8) {T : u_T} (hk12 : kd < 12) (hc : vwCl[kd]? = some (z.1.cls, T, kN kd)) (hd1 : 1 ≤ d)
    (hk : kz + k ≤ k2) (hn : nz + n ≤ n2) (ok : okO M r kd) (hC : C G z (d - 1) kz nz (vA r :: as) M Q') (kk : ∀ (v : PV) (M' : MM), Q' v M' → X G y d k n (pc + 3) xs (if isU v then rest else v :: rest) M' Q) : X G y d k2 n2 pc xs st M Q := by
  subst hst
  refine X.call (as := vA r :: as) (rest := rest) hk hn (fun {p l e s m args below meth c H locs cells slots mc ms ls} hF hl hR hcm hsm => ?_) kk
  obtain ⟨⟨h1, h2, h3, h4⟩, h5, h6, h7⟩ := hw
  have hts := hF.2.2.2.2.2.1
  have hNN := hF.2.2.2.2.2.2.2.2.1
  have eA : ((vA r :: as).map (tV G)) = Value.ref (gB G + r.toNat) :: as.map (tV G) := by
    rw [List.map_cons]; congr 1; exact rfV_pos ok.1
  rw [eA]
  refine va_runVN (Ts := lw_g) (b := gB G + r.toNat) (As := as.map (tV G)) (nL := y.2.2.1) ⟨hF.1, hF.2.1, hF.2.2.2.1, hF.2.2.2.2.1, hts⟩ (hC l) ⟨va_cnB np hts (cB_ws h1) rfl rfl rfl (h5 G s hNN) (hts _ h2) h3 (rm_ok hd1 h4), hts _ h6, hts _ h7⟩ ⟨FrameB, rvok hR ok hk12 hc, fun U hU hW => ⟨by rw [eA], by rw [hU]; exact hR.moved hW.alike, hNN.warm hW⟩⟩ rfl (by rw [List.length_map]; exact hnp) hl.1 ?_ (lv_room (by rw [vsum]; exact hr8)) hd ⟨hcm, hsm⟩
  rw [List.map_append, List.map_reverse, List.map_cons]
  show (as.map (tV G)).reverse ++ rfV G r :: rest.map (tV G) = _
  rw [rfV_pos ok.1]
theorem x_callS {z : YY} {idx np kz nz n2 : Nat} (as rest : List PV) {Q' : PV → MM → Prop} (hd : decode y.2.1 pc = .ok (.invokestatic idx, 3)) (hw : cS y.1.cls z idx np) (hst : st = as.reverse ++ rest) (hnp : as.length = np) (hr8 : (rest.map (fun x => if isL x then 2 else 1)).sum ≤ 8) (hd1 : 1 ≤ d)
    (hk : kz + k ≤ k2) (hn : nz + n ≤ n2) (hC : C G z (d - 1) kz nz as M Q') (kk : ∀ (v : PV) (M' : MM), Q' v M' → X G y d k n (pc + 3) xs (if isU v then rest else v :: rest) M' Q) : X G y d k2 n2 pc xs st M Q := by
  subst hst
  refine X.call (as := as) (rest := rest) hk hn (fun {p l e s m args below meth c H locs cells slots mc ms ls} hF hl hR hcm hsm => ?_) kk
  obtain ⟨⟨h1, h2, h3, h4⟩, h5, h6⟩ := hw
  have hts := hF.2.2.2.2.2.1
  refine va_runS (Ts := lw_g) (As := as.map (tV G)) (nL := y.2.2.1) ⟨hF.1, hF.2.1, hF.2.2.2.1, hF.2.2.2.2.1, hts⟩ (hC l) ⟨callB_of np hts (cB_ws h1) rfl rfl rfl (hts _ h2) (hts _ h5) h3 (rm_ok hd1 h4), hts _ h6⟩ ⟨FrameB, fun U hU hW => ⟨rfl, by rw [hU]; exact hR.moved hW.alike, hF.2.2.2.2.2.2.2.2.1.warm hW⟩⟩ rfl (by rw [List.length_map]; exact hnp) hl.1 ?_ (lv_room (by rw [vsum]; exact hr8)) hd ⟨hcm, hsm⟩
  rw [List.map_append, List.map_reverse]
theorem x_callI {z : YY} {idx np kz nz n2 : Nat} {r : Int} (as rest : List PV) {Q' : PV → MM → Prop} (hd : decode y.2.1 pc = .ok (.invokespecial idx, 3)) (hw : cI y.1.cls z idx np) (hst : st = as.reverse ++ vA r :: rest) (hnp : as.length = np) (hr8 : (rest.map (fun x => if isL x then 2 else 1)).sum ≤ 8) (hd1 : 1 ≤ d)
    (hk : kz + k ≤ k2) (hn : nz + n ≤ n2) (h0 : 0 ≤ r) (hC : C G z (d - 1) kz nz (vA r :: as) M Q') (kk : ∀ (v : PV) (M' : MM), Q' v M' → X G y d k n (pc + 3) xs (if isU v then rest else v :: rest) M' Q) : X G y d k2 n2 pc xs st M Q := by
  subst hst
  refine X.call (as := vA r :: as) (rest := rest) hk hn (fun {p l e s m args below meth c H locs cells slots mc ms ls} hF hl hR hcm hsm => ?_) kk
  obtain ⟨⟨h1, h2, h3, h4⟩, h5, h6, h7, h8⟩ := hw
  have hts := hF.2.2.2.2.2.1
  have eA : ((vA r :: as).map (tV G)) = Value.ref (gB G + r.toNat) :: as.map (tV G) := by
    rw [List.map_cons]; congr 1; exact rfV_pos h0
  rw [eA]
  rw [h8] at h1
  refine va_runI (Ts := lw_g) (b := gB G + r.toNat) (As := as.map (tV G)) (nL := y.2.2.1) (bytes := z.2.1) (maxL := z.2.2.1) (n := np) ⟨hF.1, hF.2.1, hF.2.2.2.1, hF.2.2.2.2.1, hts⟩ (hC l) ⟨callB_of np hts (cB_ws (by rw [h8]; exact h1)) (by rw [wsO, h8]) rfl rfl (hts _ h2) (hts _ h5) h3 (rm_ok hd1 h4), h7, hts _ h6⟩ ⟨FrameB, fun U hU hW => ⟨by rw [eA], by rw [hU]; exact hR.moved hW.alike, hF.2.2.2.2.2.2.2.2.1.warm hW⟩⟩ rfl (by rw [List.length_map]; exact hnp) hl.1 ?_ (lv_room (by rw [vsum]; exact hr8)) hd ⟨hcm, hsm⟩
  rw [List.map_append, List.map_reverse, List.map_cons]
  show (as.map (tV G)).reverse ++ rfV G r :: rest.map (tV G) = _
  rw [rfV_pos h0]
theorem x_callIN {z : YY} {idx np kz nz n2 : Nat} {r : Int} (as rest : List PV) {Q' : PV → MM → Prop} (hd : decode y.2.1 pc = .ok (.invokespecial idx, 3)) (hw : cIN y.1.cls z idx np) (hst : st = as.reverse ++ vA r :: rest) (hnp : as.length = np) (hr8 : (rest.map (fun x => if isL x then 2 else 1)).sum ≤ 8) (hd1 : 1 ≤ d)
    (hk : kz + k ≤ k2) (hn : nz + n ≤ n2) (h0 : 0 ≤ r) (hC : C G z (d - 1) kz nz (vA r :: as) M Q') (kk : ∀ (v : PV) (M' : MM), Q' v M' → X G y d k n (pc + 3) xs (if isU v then rest else v :: rest) M' Q) : X G y d k2 n2 pc xs st M Q := by
  subst hst
  refine X.call (as := vA r :: as) (rest := rest) hk hn (fun {p l e s m args below meth c H locs cells slots mc ms ls} hF hl hR hcm hsm => ?_) kk
  obtain ⟨⟨h1, h2, h3, h4⟩, h5, h6, h7, h8⟩ := hw
  have hts := hF.2.2.2.2.2.1
  have hNN := hF.2.2.2.2.2.2.2.2.1
  have eA : ((vA r :: as).map (tV G)) = Value.ref (gB G + r.toNat) :: as.map (tV G) := by
    rw [List.map_cons]; congr 1; exact rfV_pos h0
  rw [eA]
  refine va_runIN (Ts := lw_g) (b := gB G + r.toNat) (As := as.map (tV G)) (nL := y.2.2.1) (bytes := z.2.1) (maxL := z.2.2.1) (n := np) (host := "StayPlay") ⟨hF.1, hF.2.1, hF.2.2.2.1, hF.2.2.2.2.1, hts⟩ (hC l) ⟨va_cnB np hts (cB_ws h1) (by rw [wsO, h8]) rfl rfl (h5 G s hNN) (hts _ h2) h3 (rm_ok hd1 h4), h7, hts _ h6⟩ ⟨FrameB, fun U hU hW => ⟨by rw [eA], by rw [hU]; exact hR.moved hW.alike, hNN.warm hW⟩⟩ rfl (by rw [List.length_map]; exact hnp) hl.1 ?_ (lv_room (by rw [vsum]; exact hr8)) hd ⟨hcm, hsm⟩
  rw [List.map_append, List.map_reverse, List.map_cons]
  show (as.map (tV G)).reverse ++ rfV G r :: rest.map (tV G) = _
  rw [rfV_pos h0]
end R4
