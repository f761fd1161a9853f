def R_law : String := "StayPlayLaw"
def lw_P (b : Addr) (xs : List Int32) (args : Array Value) (s : State) : Prop := args = #[.ref b] ∧ s.IntsAt b xs ∧ xs.length ≤ 4608 ∧ (Jvm.Cond.and given_1 narrow_1).before args s = true
def lw_Q (_ : Array Value) (s : State) (o : Outcome) (t : State) : Prop := o = .returned (some (.int 1)) ∧ Framed s o t [] 600000 7302250
def lw_Z (below : List Frame) (a : Array Value) (s : State) : State → Prop := fun t => ∃ o, t.status = .running ∧ Ended t below o ∧ lw_Q a s o t
/-- what holds at the law's entry: the machine, the code, the tables' words (any of lw_tbl by 'hts w (by decide +kernel)'), the script of L ints xs at the cell b, what the Statement gives of the start (any of its parts by flat_of_before) -/
def lw_At (p : Program) (s : State) (m : MethodId) (meth : Method) (c : Code) (b L : Nat) (xs : Nat → Int32) : Prop :=
  p.tables.exec = Jvm.exec ∧ c.code = code ∧ meth.sig.returnType = ret ∧ c.maxLocals = 4 ∧ s.vm.findClass R_law = some m.cls ∧ (∀ w ∈ lw_tbl, w.before #[Value.ref b] s = true) ∧ va_X b L xs s s.heap ∧ b < s.heap.size ∧ meth.locks = false ∧ (Jvm.Cond.and given_1 narrow_1).before #[Value.ref b] s = true
theorem room_mono {s : State} {pl : Platform} {r r' : Room} (hf : r.frames ≤ r'.frames) (hl : r.locals ≤ r'.locals) (hc : r.cells ≤ r'.cells) (hs : r.slots ≤ r'.slots) (h : s.hasRoom pl r' = true) : s.hasRoom pl r = true := by
  simp only [State.hasRoom, Bool.and_eq_true, decide_eq_true_eq] at h ⊢
  obtain ⟨⟨⟨⟨y, a, b, c, d, e⟩, f⟩, g⟩, i⟩ := h
  exact ⟨⟨⟨⟨by omega, by omega, by omega, by omega, by omega, e⟩, by omega⟩, by omega⟩, i⟩
theorem arr_of {s : State} {A : Array Value} {ty : FieldType} (h : (Cond.arrayClass ty).before A s = true) (hp : ∀ cA, s.vm.findClass ("[" ++ ty.toString) = some cA → va_RA s cA ty) : ∃ cA, ArrOfT s cA ty ∧ va_RA s cA ty := by
  obtain ⟨c, k, comp, h1, h2, h3⟩ := Cond.arrayClass_spec h
  exact ⟨c, fun n z => ⟨fun k h => (by cases h), k, h2, comp, h3⟩, hp c h1⟩
theorem arr_ob {s : State} {A : Array Value} {C : String} (h : (Cond.arrayOver (.object C)).before A s = true) : ∃ cA, ArrOfT s cA (.object C) ∧ va_RA s cA (.object C) := by
  obtain ⟨comp, c, k, h1, h2, h3, h4, h5⟩ := Cond.arrayOver_spec h
  exact ⟨c, fun n z => ⟨fun k h => (by cases h), k, h3, comp, h4⟩, k, comp, h3, h4, h1, h5⟩
/-- the four given things: where they lie and what they hold -/
abbrev tmS : Term := .static "StayPlay$Steps" "LIMBS" "[I"
abbrev tmD : Term := .static "StayPlay$Digits" "TENS" "[J"
abbrev tmV : Term := .field (.string "StayPlay$Reader" 64) "java/lang/String" "value" "[B"
section BEG
variable {s : State} {b : Nat}
theorem beg_limbs {A : Nat → Prop} (hgv : (Jvm.Cond.and given_1 narrow_1).before #[Value.ref b] s = true) (hA : ∀ a : Nat, a < s.heap.size → ¬ A a) : ∃ t : Nat, tmS.eval #[Value.ref b] s none [] s = some (.ref t) ∧ va_T .int t 6 (fun j => .int (Int32.ofInt (limF j))) A s s.heap := by
  have hs := flat_of_before _ hgv
  refine va_Tof (N := 6) (f := fun j => .int (Int32.ofInt (limF j))) (by decide) (hs (Cond.arrayOf tmS .int) (by decide +kernel)) (va_eqt (hs (Cond.eq (.length tmS) (.int 6)) (by decide +kernel))) (fun j hj => va_eqt (hs _ ?_)) hA
  exact (by decide +kernel : ∀ j, j < 6 → Cond.eq (.elem tmS (.int (Int32.ofNat j))) (.int (Int32.ofInt (limF j))) ∈ flatC (Jvm.Cond.and given_1 narrow_1)) j hj
theorem beg_tens {A : Nat → Prop} (hgv : (Jvm.Cond.and given_1 narrow_1).before #[Value.ref b] s = true) (hA : ∀ a : Nat, a < s.heap.size → ¬ A a) : ∃ t : Nat, tmD.eval #[Value.ref b] s none [] s = some (.ref t) ∧ va_T .long t 8 (fun j => .long (Int64.ofInt (tenF j))) A s s.heap := by
  have hs := flat_of_before _ hgv
  refine va_Tof (N := 8) (f := fun j => .long (Int64.ofInt (tenF j))) (by decide) (hs (Cond.arrayOf tmD .long) (by decide +kernel)) (va_eqt (hs (Cond.eq (.length tmD) (.int 8)) (by decide +kernel))) (fun j hj => va_eqtl (hs _ ?_)) hA
  exact (by decide +kernel : ∀ j, j < 8 → Cond.eq (.elem tmD (.int (Int32.ofNat j))) (.long (Int64.ofInt (tenF j))) ∈ flatC (Jvm.Cond.and given_1 narrow_1)) j hj
theorem beg_words {A : Nat → Prop} (hgv : (Jvm.Cond.and given_1 narrow_1).before #[Value.ref b] s = true) (hA : ∀ a : Nat, a < s.heap.size → ¬ A a) : ∃ a5 a6 : Nat, vk_S 1 [68] [wordsB] (fun _ => a5) (fun _ => a6) A s s.heap ∧ (Term.string "StayPlay$Reader" 64).eval #[Value.ref b] s none [] s = some (.ref a5) := by
  have hs := flat_of_before _ hgv
  obtain ⟨adK, adV, h1, h2⟩ := vk_Sof (args := #[Value.ref b]) (s := s) (N := 1) (tm := fun _ => Term.string "StayPlay$Reader" 64) (len := [68]) (byt := [wordsB]) (A := A) (fun i hi => by rw [show i = 0 by omega]; decide) (fun i hi => hs (Cond.exactly (.string "StayPlay$Reader" 64) "java/lang/String") (by decide +kernel)) (fun i hi => hs (Cond.eq (.field (.string "StayPlay$Reader" 64) "java/lang/String" "coder" "B") (.int 0)) (by decide +kernel)) (fun i hi => hs (Cond.arrayOf tmV .byte) (by decide +kernel)) (fun i hi => by rw [show i = 0 by omega]; exact hs (Cond.eq (.length tmV) (.int 68)) (by decide +kernel)) (fun i hi j hj => by
    have ei : i = 0 := by omega
    subst ei
    exact hs _ ((by decide +kernel : ∀ j, j < 68 → Cond.eq (.elem tmV (.int (Int32.ofNat j))) (.int (wordsB.getD j 0)) ∈ flatC (Jvm.Cond.and given_1 narrow_1)) j hj)) (fun i j hi hj hn => absurd (by omega) hn) hA
  exact ⟨adK 0, adV 0, ⟨fun i hi => by rw [show i = 0 by omega]; exact h1.1 0 (by decide), fun i j hi hj _ => by omega⟩, h2 0 (by decide)⟩
theorem beg_form (hgv : (Jvm.Cond.and given_1 narrow_1).before #[Value.ref b] s = true) : ∃ (z : Int) (a7 : Nat), (z = -1 ∨ z = -7) ∧ (Term.static "jdk/internal/util/Preconditions" "SIOOBE_FORMATTER" "Ljava/util/function/BiFunction;").eval #[Value.ref b] s none [] s = some (if z = -1 then .null else .ref a7) := by
  have hs := flat_of_before _ hgv
  obtain ⟨v, hv, hr⟩ := Cond.isRef_spec (show (Cond.isRef (Term.static "jdk/internal/util/Preconditions" "SIOOBE_FORMATTER" "Ljava/util/function/BiFunction;")).before #[Value.ref b] s = true from hs _ (by decide +kernel))
  cases v with
  | null => exact ⟨-1, 0, Or.inl rfl, by rw [hv]; rfl⟩
  | ref a => exact ⟨-7, a, Or.inr rfl, by rw [hv]; rfl⟩
  | _ => cases hr
end BEG
theorem whole_start {p : Program} {e : Env} {s : State} {m : MethodId} {below : List Frame} {meth : Method} {c : Code} (l : Launch) {b L : Nat} {xs : Nat → Int32} (hL : L ≤ 4608) (hnm : meth.name = "law") (C0 : lw_At p s m meth c b L xs) : W p l e room_1 s m #[Value.ref b] below meth c s.heap [] 0 0 (lw_Z below #[Value.ref b] s) (entryFrame m ([Value.ref b] : List Value).toArray 4) := by
  obtain ⟨hx, hb, hr, hml, hown, hts, hX, hbl, hlocks, hgv⟩ := id C0
  have hg : ∀ w ∈ lw_g, w.before #[Value.ref b] s = true := fun w hw => hts w (List.mem_filter.mp hw).1
  have hA : ∀ a : Nat, a < s.heap.size → ¬ (fun q : Nat => s.heap.size ≤ q) a := fun a h => Nat.not_le.mpr h
  have hs := flat_of_before _ hgv
  obtain ⟨c0, i0, k0⟩ := u_known (C := RX0) (T := TX0) (N := 3) (n := 3) hg cl_0 (hg _ ins_0)
  obtain ⟨c1, i1, k1⟩ := u_known (C := RX1) (T := TX1) (N := 9) (n := 9) hg cl_1 (hg _ ins_1)
  obtain ⟨c2, i2, k2⟩ := u_known (C := RX3) (T := TX3) (N := 5) (n := 5) hg cl_2 (hg _ ins_2)
  obtain ⟨c3, i3, k3⟩ := u_known (C := RX4) (T := TX4) (N := 17) (n := 17) hg cl_3 (hg _ ins_3)
  obtain ⟨c4, i4, k4⟩ := u_known (C := RX5) (T := TX5) (N := 4) (n := 4) hg cl_4 (hg _ ins_4)
  obtain ⟨c5, i5, k5⟩ := u_known (C := RX6) (T := TX6) (N := 12) (n := 12) hg cl_5 (hg _ ins_5)
  obtain ⟨c6, i6, k6⟩ := u_known (C := RX7) (T := TX7) (N := 9) (n := 9) hg cl_6 (hg _ ins_6)
  obtain ⟨c7, i7, k7⟩ := u_known (C := RX8) (T := TX8) (N := 7) (n := 7) hg cl_7 (hg _ ins_7)
  obtain ⟨c8, i8, k8⟩ := u_known (C := RX9) (T := TX9) (N := 12) (n := 12) hg cl_8 (hg _ ins_8)
  obtain ⟨c9, i9, k9⟩ := u_known (C := RX10) (T := TX10) (N := 13) (n := 13) hg cl_9 (hg _ ins_9)
  obtain ⟨c10, i10, k10⟩ := u_known (C := RX11) (T := TX11) (N := 16) (n := 16) hg cl_10 (hg _ ins_10)
  obtain ⟨c11, i11, k11⟩ := u_known (C := RX12) (T := TX12) (N := 54) (n := 54) hg cl_11 (hg _ ins_11)
  obtain ⟨A20, g20⟩ := arr_of (hg _ ac_int) (fun cA h => h)
  obtain ⟨A21, g21⟩ := arr_of (hg _ ac_long) (fun cA h => h)
  obtain ⟨A22, g22⟩ := arr_of (hg _ ac_boolean) (fun cA h => h)
  obtain ⟨A23, g23⟩ := arr_ob (hts (.arrayOver (.object "StayPlay$House")) (by decide +kernel))
  obtain ⟨A24, g24⟩ := arr_ob (hts (.arrayOver (.object "StayPlay$Law")) (by decide +kernel))
  obtain ⟨t3, e3, T3⟩ := beg_limbs hgv hA
  obtain ⟨t4, e4, T4⟩ := beg_tens hgv hA
  obtain ⟨a5, a6, S5, e5⟩ := beg_words hgv hA
  obtain ⟨z, a7, hz, e7⟩ := beg_form hgv
  let G : GG := (s.heap.size, (fun i => match i with | 2 => b | 3 => t3 | 4 => t4 | 5 => a5 | 6 => a6 | _ => a7), (fun k => match k with | 0 => c0 | 1 => c1 | 2 => c2 | 3 => c3 | 4 => c4 | 5 => c5 | 6 => c6 | 7 => c7 | 8 => c8 | 9 => c9 | 10 => c10 | _ => c11), (fun k => match k with | 0 => i0 | 1 => i1 | 2 => i2 | 3 => i3 | 4 => i4 | 5 => i5 | 6 => i6 | 7 => i7 | 8 => i8 | 9 => i9 | 10 => i10 | _ => i11), (fun k => match k with | 20 => A20 | 21 => A21 | 22 => A22 | 23 => A23 | _ => A24), L, fun j => (xs j).toInt)
  have hK : va_K (gC G, gI G) vwCl (KT G) s := by
    refine ⟨fun k q hq => ?_, fun k q hq => ?_⟩
    · match k, hq with
      | 0, hq => cases hq; exact k0
      | 1, hq => cases hq; exact k1
      | 2, hq => cases hq; exact k2
      | 3, hq => cases hq; exact k3
      | 4, hq => cases hq; exact k4
      | 5, hq => cases hq; exact k5
      | 6, hq => cases hq; exact k6
      | 7, hq => cases hq; exact k7
      | 8, hq => cases hq; exact k8
      | 9, hq => cases hq; exact k9
      | 10, hq => cases hq; exact k10
      | 11, hq => cases hq; exact k11
      | k + 12, hq => simp [vwCl] at hq
    · match k, hq with
      | 0, hq => cases hq; exact g20
      | 1, hq => cases hq; exact g21
      | 2, hq => cases hq; exact g22
      | 3, hq => cases hq; exact g23
      | 4, hq => cases hq; exact g24
      | k + 5, hq => simp [KT] at hq
  have hT : va_T .int b L (fun j => .int (Int32.ofInt (gX G j))) (gR G) s s.heap := by
    obtain ⟨scr, h1, h2, h3, h4, h5⟩ := hX
    exact ⟨scr, h1, h2, h3, by omega, by rw [h4], fun j hj => by rw [h5 j hj]; show _ = some (Value.int (Int32.ofInt (xs j).toInt)); rw [Int32.ofInt_toInt], hA b hbl⟩
  have hZ7 : va_Z "jdk/internal/util/Preconditions" "SIOOBE_FORMATTER" "Ljava/util/function/BiFunction;" (rfV G z) (gR G) s s.heap := by
    refine va_Zof (hts _ (by decide +kernel)) (hts _ (by decide +kernel)) (e7.trans ?_) hA
    rcases hz with rfl | rfl <;> rfl
  have hST : ST G s s.heap := ⟨va_Zof (hts _ (by decide +kernel)) (hts _ (by decide +kernel)) e3 hA, T3, va_Zof (hts _ (by decide +kernel)) (hts _ (by decide +kernel)) e4 hA, T4, ⟨va_Zof (hts _ (by decide +kernel)) (hts _ (by decide +kernel)) (va_eqi (hs (Cond.eq (.static "java/lang/String" "COMPACT_STRINGS" "Z") (.int 1)) (by decide +kernel))) hA, z, hZ7⟩, S5, hT⟩
  have hR : Rep G M00 s s.heap := ⟨Int.le_refl _, rfl, fun a a0 a1 => absurd a1 (by show ¬ a < 0; omega), hK, hST⟩
  have hN : NN G s := ⟨va_Nw.of rfl (hts _ (by decide +kernel)), va_Nw.of rfl (hts _ (by decide +kernel)), va_Nw.of rfl (hts _ (by decide +kernel)), va_Nw.of rfl (hts _ (by decide +kernel)), va_Nw.of rfl (hts _ (by decide +kernel)), va_AO.of (hts (.arrayOver (.object "StayPlay$House")) (by decide +kernel)), va_AO.of (hts (.arrayOver (.object "StayPlay$Law")) (by decide +kernel)), vk_R.of (hts (.stringRef "StayPlay$Reader" 64 wordsT) (by decide +kernel)) e5, va_Nw.of rfl (hts _ (by decide +kernel))⟩
  have hl := lv_entry ([.ref b]) (n := 4) (Nat.le_of_ble_eq_true rfl)
  rw [lg_entry_eq]
  generalize (lg_sl ([.ref b]) ++ List.replicate (4 - (lg_sl ([.ref b])).length) Slot.unset).toArray = ls at hl ⊢
  have hl : LV G ls 4 [vA (-2), vU, vU, vU] := hl
  have hgX : ∀ j : Nat, inR (gX G j) := fun j => inR_i32 (xs j)
  have key := law_all (G := G) (d := 1000) (by decide) hL hgX p l e s m #[Value.ref b] below meth c s.heap [] 0 0 600000 7302250 ls ⟨hx, hb, hr, hml, hown, hg, hlocks, hnm, hN, Nat.le_refl _⟩ (by decide) (by decide) hl hR va_S.rf
  intro T hT' XS
  have XS' : Stand p l e (rmD 1000 600000 7302250) s m #[Value.ref b] below meth c T [] 0 0 := ⟨XS.admits, XS.cas, XS.clock, XS.frames, room_mono (by decide) (by decide) (by decide) (by decide) XS.room, XS.hears, XS.method, XS.code, XS.here, XS.tail, XS.warmed, XS.limits, XS.bytes, XS.same⟩
  obtain ⟨t, st, o, hrun, hend, ⟨⟨v, M', ho, hQ, -⟩, -⟩, Lc, hFE, hfree⟩ := key T hT' XS'
  have hv : v = vI 1 := by
    rcases v with a | a | a | a
    · have : a = 1 := hQ
      rw [this]
    · exact hQ.elim
    · exact hQ.elim
    · exact hQ.elim
  rw [hv] at ho
  refine ⟨t, st, o, hrun, hend, ho, hFE.1, hFE.2.1, ?_⟩
  exact hFE.2.2.weaken (fun x hx hlt => absurd (hfree x hx) (Nat.not_le.mpr hlt)) (Nat.le_refl _) (Nat.le_refl _)
set_option maxHeartbeats 4000000 in
theorem lw_walk (l : Launch) (b : Addr) (xs : List Int32) : MetFree l x (headSpec (Jvm.Cond.code x code maxLocals ret :: tables_1) room_1) (lw_P b xs) (fun _ _ _ _ _ => True) lw_Q := by
  refine MetFree.of_bodyS (code := code) (maxLocals := maxLocals) (ret := ret) (by decide) ?_ ?_
  · intro args s m h hn
    obtain ⟨meth, c, h1, h2, h3, h4, h5, h6, -, -⟩ := Cond.code_spec hn (atoms_spec (ws := Jvm.Cond.code x code maxLocals ret :: tables_1) h _ List.mem_cons_self)
    exact ⟨meth, c, h1, h2, h3, h4, h5, h6⟩
  · intro p e s m args below meth c s₁ B hml0 hP _
    obtain ⟨rfl, hx, hbd, hgv⟩ := hP
    obtain ⟨scr, harrAt, hlist, hof, hsmall⟩ := hx
    obtain ⟨hcb, hkn, -, -⟩ := State.arrayAt?_spec harrAt
    have hown : s.vm.findClass R_law = some m.cls := findClass_of_methodNamed B.named
    have hts0 : ∀ c ∈ (Jvm.Cond.code x code maxLocals ret :: tables_1), c.before #[Value.ref b] s = true := atoms_spec (ws := Jvm.Cond.code x code maxLocals ret :: tables_1) B.pre
    have hts : ∀ w ∈ lw_tbl, w.before #[Value.ref b] s = true := k2_hts_sels lw_privs (fun w hw => hts0 w (List.mem_cons_of_mem _ hw)) lw_privs_ok
    have hml : c.maxLocals = 4 := B.maxLocals_eq (hts0 _ List.mem_cons_self)
    have X₀ : Stand p l e room_1 s m #[Value.ref b] below meth c s₁ [] 0 0 := Stand.of_body B
    have hh0 : s₁.heap = s.heap := by rw [B.state]; rfl
    have hsz : scr.slots.size = xs.length := by rw [← Array.length_toList, hlist, List.length_map]
    have hval : ∀ j : Nat, j < xs.length → scr.slots[j]? = some (.int (xs.getD j 0)) := fun j hj => by
      rw [← Array.getElem?_toList, hlist]
      simp [hj]
    have hbl : b < s.heap.size := (Array.getElem?_eq_some_iff.mp hcb).1
    have hX : va_X b xs.length (fun j => xs.getD j 0) s s.heap := ⟨scr, hcb, hof, hkn, hsz, hval⟩
    have K : W p l e room_1 s m #[Value.ref b] below meth c s₁.heap [] 0 0 (lw_Z below #[Value.ref b] s) (entryFrame m ([Value.ref b] : List Value).toArray 4) := by
      rw [hh0]
      exact whole_start l hbd (name_of_methodNamed B.named B.method).1 ⟨B.exec, B.bytes, B.returns, hml, hown, hts, hX, hbl, B.notSynchronized, hgv⟩
    obtain ⟨t, a1, o, b1, b2, b3⟩ := K s₁ rfl X₀
    exact ⟨t, o, a1, b1, b2, b3⟩
theorem lw_pre_spec {args : Array Value} {s : State} (h : (Jvm.Cond.and given_1 narrow_1).before args s = true) (hr : rest_1_c.before args s = true) : ∃ (b : Addr) (xs : List Int32), lw_P b xs args s := by
  have hs := flat_of_before _ h
  have hq := flat_of_before _ hr
  have hc : (Cond.count 1).before args s = true := hs _ (by decide +kernel)
  have harr : (Cond.arrayOf (.arg 0) .int).before args s = true := hs _ (by decide +kernel)
  have hle : (Cond.le (.length (.arg 0)) (.int 4608)).before args s = true := hs _ (by decide +kernel)
  have hlen : (Cond.isInt (.length (.arg 0))).before args s = true := hq _ (by decide +kernel)
  have hall : (Cond.all (.arg 0) (.isInt (.elem (.arg 0) (.index 0)))).before args s = true := hq _ (by decide +kernel)
  obtain ⟨b, xs, hb, hx⟩ := State.ints_of_pre rfl harr hlen hall
  have hsm : xs.length < 2 ^ 31 := hx.choose_spec.2.2.2
  have hev : (Term.length (.arg 0)).eval args s none [] s = some (.int xs.length.toInt32) := hx.length_eval hb
  have hv := Cond.le_ints hev (show (Term.int 4608).eval args s none [] s = some (.int 4608) from rfl)
  have hd : xs.length.toInt32 ≤ 4608 := by
    simpa [Cond.before, Cond.holds, hv] using hle
  have hN : xs.length ≤ 4608 := (Int32.ofNat_le_ofNat hsm (by decide)).mp (show Int32.ofNat xs.length ≤ Int32.ofNat 4608 from hd)
  exact ⟨b, xs, Cond.one_arg hc (show args[0]? = some (.ref b) from hb), hx, hN, h⟩
theorem lw_comes (l : Launch) : Comes l x (Jvm.Cond.code x code maxLocals ret :: tables_1) room_1 (fun tb e args s => Calls_1 tb e args s ∧ rest_1 tb e args s ∧ Pre_1 tb e args s)
    (fun _ _ args s o t => lw_Q args s o t) := by
  intro p e ha hc hk s m args below hf hfit hheap happ hpre
  obtain ⟨b, xs, hP⟩ := lw_pre_spec hpre.2.2 hpre.2.1
  obtain ⟨k, o, h1, h2, h3, hQ⟩ := lw_walk l b xs p e ha hc hk s m args below hf ((Spec.applies_iff_loose hf).mp happ).1 hP trivial
  exact ⟨k, o, h1, h2, h3, hQ⟩
theorem lw_frame {s t : State} {o : Outcome} {args : Array Value} (h : Framed s o t [] 600000 7302250) :
    Framed s o t (fieldLocs frame_1_writes args s ++ arrayLocs frame_1_arrays args s ++ staticLocs frame_1_statics s) 600000 7302250 := h
theorem lw_limb (L : Cond) (hL : ∀ (args : Array Value) (s t : State), L.after args s (.returned (some (.int 1))) t = true) :
    ArmFor flags0 classFile x code maxLocals ret World_1 tables_1 room_1 Calls_1 rest_1 Pre_1
      (fun tb e a s o t => postC L tb e a s o t ∧ Framed s o t (fieldLocs frame_1_writes a s ++ arrayLocs frame_1_arrays a s ++ staticLocs frame_1_statics s) 600000 7302250) := by
  intro l _ _ _ p e ha hc hk s m args below hf hfit hheap happ hpre
  obtain ⟨k, o, h1, h2, h3, rfl, hF⟩ := lw_comes l p e ha hc hk s m args below hf hfit hheap happ hpre
  exact ⟨k, _, h1, h2, h3, hL args s _, lw_frame hF⟩
theorem i_vc : Claimed_1_1 ∧ Claimed_1_2 := ⟨lw_limb limb_1_1 (fun args s t => by simp [limb_1_1, Cond.after, Cond.holds, Cond.value]), lw_limb limb_1_2 (fun args s t => Cond.after_iff.mpr (by
  first | (rw [show limb_1_2 = Cond.eq .result (.int 1) from rfl, Cond.eq_ints (x := 1) (y := 1) rfl rfl]; simp; done) | (simp [limb_1_2, Cond.value, Term.eval]; done)))⟩

