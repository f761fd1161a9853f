/-! ===== the memory: how many cells, their kinds and lengths, what they hold ===== -/
abbrev MM : Type := Int × (Int → Nat × Int) × (Int → Int → Int)
def mN (M : MM) : Int := M.1
def mT (M : MM) (a : Int) : Nat × Int := M.2.1 a
def rd (M : MM) (a i : Int) : Int := M.2.2 a i
def wr (M : MM) (a i v : Int) : MM := (M.1, M.2.1, fun b j => if b = a ∧ j = i then v else M.2.2 b j)
def al (M : MM) (kd : Nat) (n : Int) (f : Int → Int) : MM := (M.1 + 1, fun b => if b = M.1 then (kd, n) else M.2.1 b, fun b j => if b = M.1 then f j else M.2.2 b j)
def cpM (M : MM) (a i b j n : Int) : MM := (M.1, M.2.1, fun c q => if c = b ∧ j ≤ q ∧ q < j + n then M.2.2 a (i + (q - j)) else M.2.2 c q)
/-- kinds: objects 0 .. 11 as vwCl lists them; 20 int[], 21 long[], 22 boolean[], 23 House[], 24 Law[] -/
def fT (kd : Nat) : Nat → FieldType := match kd with
  | 0 => tyX0 | 1 => tyX1 | 2 => tyX3 | 3 => tyX4 | 4 => tyX5 | 5 => tyX6 | 6 => tyX7 | 7 => tyX8 | 8 => tyX9 | 9 => tyX10 | 10 => tyX11 | _ => tyX12
def kN (kd : Nat) : Nat := match kd with
  | 0 => 3 | 1 => 9 | 2 => 5 | 3 => 17 | 4 => 4 | 5 => 12 | 6 => 9 | 7 => 7 | 8 => 12 | 9 => 13 | 10 => 16 | _ => 54
def fV (G : GG) (t : FieldType) (x : Int) : Value := match t with
  | .long => .long (Int64.ofInt x)
  | .object _ => rfV G x
  | .array _ => rfV G x
  | _ => .int (Int32.ofInt x)
def aT (kd : Nat) : FieldType := match kd with
  | 20 => .int | 21 => .long | 22 => .boolean | 23 => .object "StayPlay$House" | _ => .object "StayPlay$Law"
def dV (t : FieldType) : Int := match t with
  | .object _ => -1
  | .array _ => -1
  | _ => 0
def cOK (G : GG) (H : Heap) (a : Nat) (kn : Nat × Int) (f : Int → Int) : Prop :=
  if kn.1 < 12 then t_OB a (gC G kn.1) (kN kn.1) (gI G kn.1) H (fun j => fV G (fT kn.1 j) (f j))
  else 20 ≤ kn.1 ∧ kn.1 < 25 ∧ 0 ≤ kn.2 ∧ kn.2 < 2147483648 ∧ H[a]? = some (arrV (gA G kn.1) kn.2.toNat (fun j => fV G (aT kn.1) (f j)))
def KT (G : GG) : List (ClassId × FieldType) := [(gA G 20, aT 20), (gA G 21, aT 21), (gA G 22, aT 22), (gA G 23, aT 23), (gA G 24, aT 24)]
def limF (j : Nat) : Int := match j with
  | 0 => 14 | 1 => 11 | 2 => 9 | 3 => 6 | 4 => 4 | _ => 1
def tenF (j : Nat) : Int := match j with
  | 0 => 1 | 1 => 10 | 2 => 100 | 3 => 1000 | 4 => 10000 | 5 => 100000 | 6 => 1000000 | _ => 10000000
def wordsT : String := "stays price if or and not sort scene before heads own minute played "
def wordsB : List Int32 := [115, 116, 97, 121, 115, 32, 112, 114, 105, 99, 101, 32, 105, 102, 32, 111, 114, 32, 97, 110, 100, 32, 110, 111, 116, 32, 115, 111, 114, 116, 32, 115, 99, 101, 110, 101, 32, 98, 101, 102, 111, 114, 101, 32, 104, 101, 97, 100, 115, 32, 111, 119, 110, 32, 109, 105, 110, 117, 116, 101, 32, 112, 108, 97, 121, 101, 100, 32]
/-- what stands outside the room: the script (2), two tables (3, 4), a text and its bytes (5, 6) -/
def ST (G : GG) (U : State) (H : Heap) : Prop :=
  va_Z "StayPlay$Steps" "LIMBS" "[I" (.ref (gS G 3)) (gR G) U H ∧ va_T .int (gS G 3) 6 (fun j => .int (Int32.ofInt (limF j))) (gR G) U H ∧
  va_Z "StayPlay$Digits" "TENS" "[J" (.ref (gS G 4)) (gR G) U H ∧ va_T .long (gS G 4) 8 (fun j => .long (Int64.ofInt (tenF j))) (gR G) U H ∧
  (va_Z "java/lang/String" "COMPACT_STRINGS" "Z" (.int 1) (gR G) U H ∧ ∃ z : Int, va_Z "jdk/internal/util/Preconditions" "SIOOBE_FORMATTER" "Ljava/util/function/BiFunction;" (rfV G z) (gR G) U H) ∧ vk_S 1 [68] [wordsB] (fun _ => gS G 5) (fun _ => gS G 6) (gR G) U H ∧
  va_T .int (gS G 2) (gL G) (fun j => .int (Int32.ofInt (gX G j))) (gR G) U H
theorem ST.kept {G : GG} {U : State} {H H1 : Heap} (h : ST G U H) (hq : ∀ a : Nat, a < H.size → ¬ gR G a → H1[a]? = H[a]?) : ST G U H1 := by
  obtain ⟨h1, h2, h3, h4, h5, h6, h7⟩ := h
  obtain ⟨h5, z, h8⟩ := h5
  exact ⟨h1.kept hq, h2.kept hq, h3.kept hq, h4.kept hq, ⟨h5.kept hq, z, h8.kept hq⟩, h6.kept hq, h7.kept hq⟩
theorem ST.moved {G : GG} {u U : State} {H : Heap} (hvm : u.vm.Alike U.vm) (h : ST G u H) : ST G U H := by
  obtain ⟨h1, h2, h3, h4, h5, h6, h7⟩ := h
  obtain ⟨h5, z, h8⟩ := h5
  exact ⟨h1.moved hvm, h2.moved hvm, h3.moved hvm, h4.moved hvm, ⟨h5.moved hvm, z, h8.moved hvm⟩, h6.moved hvm, h7.moved hvm⟩
def Rep (G : GG) (M : MM) (U : State) (H : Heap) : Prop :=
  0 ≤ mN M ∧ H.size = gB G + (mN M).toNat ∧ (∀ a : Int, 0 ≤ a → a < mN M → cOK G H (gB G + a.toNat) (mT M a) (rd M a)) ∧ va_K (gC G, gI G) vwCl (KT G) U ∧ ST G U H
theorem Rep.moved {G : GG} {M : MM} {u U : State} {H : Heap} (hvm : u.vm.Alike U.vm) (h : Rep G M u H) : Rep G M U H := by
  obtain ⟨h1, h2, h3, h4, h5⟩ := h
  exact ⟨h1, h2, h3, h4.moved hvm, h5.moved hvm⟩
/-- words that warmer tables keep -/
def NN (G : GG) (U : State) : Prop :=
  va_Nw (.methodLinkNest "StayPlay" 11 yX4_init "StayPlay") U ∧ va_Nw (.methodLinkNest "StayPlay" 240 yX9_settle "StayPlay") U ∧ va_Nw (.methodLinkNest "StayPlay" 42 yX7_init "StayPlay") U ∧
  va_Nw (.methodLinkNest "StayPlay$Plan" 84 yX9_settle "StayPlay") U ∧ va_Nw (.methodLinkNest "StayPlay$World" 98 yX9_settle "StayPlay") U ∧
  va_AO "StayPlay$House" U ∧ va_AO "StayPlay$Law" U ∧ vk_R "StayPlay$Reader" 64 wordsT (gS G 5) U ∧ va_Nw (.castable "[I" "java/lang/Cloneable") U
theorem NN.warm {G : GG} {s U : State} (hW : s.WarmedH U.vm) (h : NN G s) : NN G U := by
  obtain ⟨h1, h2, h3, h4, h5, h6, h7, h8, h9⟩ := h
  exact ⟨h1.warmM hW, h2.warmM hW, h3.warmM hW, h4.warmM hW, h5.warmM hW, h6.moved hW.alike, h7.moved hW.alike, h8.warm hW, h9.warmC hW⟩
theorem NN.same {G : GG} {u U : State} (hv : U.vm = u.vm) (h : NN G u) : NN G U := by
  obtain ⟨h1, h2, h3, h4, h5, h6, h7, h8, h9⟩ := h
  have hA : u.vm.Alike U.vm := by rw [hv]; exact Vm.Alike.refl _
  exact ⟨h1.same rfl hv.symm, h2.same rfl hv.symm, h3.same rfl hv.symm, h4.same rfl hv.symm, h5.same rfl hv.symm, h6.moved hA, h7.moved hA, h8.same hv, h9.same rfl hv.symm⟩
/-! ===== the two judgements ===== -/
/-- a method: its name, code, locals, kind of answer -/
abbrev YY : Type := MethodName × ByteArray × Nat × Option FieldType
def wsO (y : YY) : List Cond := Cond.code y.1 y.2.1 y.2.2.1 y.2.2.2 :: lw_g
def Fx (G : GG) (y : YY) (p : Program) (s : State) (m : MethodId) (args : Array Value) (meth : Method) (c : Code) : Prop :=
  p.tables.exec = Jvm.exec ∧ c.code = y.2.1 ∧ meth.sig.returnType = y.2.2.2 ∧ c.maxLocals = y.2.2.1 ∧ s.vm.findClass y.1.cls = some m.cls ∧ (∀ w ∈ lw_g, w.before args s = true) ∧ meth.locks = false ∧ meth.name = y.1.name ∧ NN G s ∧ gB G ≤ s.heap.size
def rmD (d k n : Nat) : Room := { frames := d, cells := k, slots := n, locals := 64 * d }
def QQ (G : GG) (Q : PV → MM → Prop) : Array Value → State → Outcome → State → Prop := fun _ st o t => (∃ (v : PV) (M : MM), o = .returned (oV G v) ∧ Q v M ∧ Rep G M t t.heap) ∧ va_F (gR G) st t
def X (G : GG) (y : YY) (d k n pc : Nat) (xs st : List PV) (M : MM) (Q : PV → MM → Prop) : Prop :=
  ∀ (p : Program) (l : Launch) (e : Env) (s : State) (m : MethodId) (args : Array Value) (below : List Frame) (meth : Method) (c : Code) (H : Heap) (locs : List Loc) (cells slots mc ms : Nat) (ls : Array Slot),
    Fx G y p s m args meth c → cells + k ≤ mc → slots + n ≤ ms → LV G ls y.2.2.1 xs → Rep G M s H → va_S (gR G) s.heap H locs →
    W p l e (rmD d mc ms) s m args below meth c H locs cells slots (MQ below (QQ G Q) args s mc ms (gR G)) (F0 m pc ls (st.map (tV G)))
/-- the method z, called with the values as: it ends, and Q holds of its answer and the memory then -/
def C (G : GG) (z : YY) (d k n : Nat) (as : List PV) (M : MM) (Q : PV → MM → Prop) : Prop :=
  ∀ l : Launch, Met l z.1 (wsO z) (rmD d k n) (va_Pc (as.map (tV G)) (fun U => Rep G M U U.heap ∧ NN G U)) (QQ G Q) k n (gR G)
/-- an answer's kind -/
def rI (P : Int → MM → Prop) : PV → MM → Prop := fun r M => match r with
  | Sum.inl a => P a M
  | _ => False
def rL (P : Int → MM → Prop) : PV → MM → Prop := fun r M => match r with
  | Sum.inr (Sum.inl a) => P a M
  | _ => False
def rA (P : Int → MM → Prop) : PV → MM → Prop := fun r M => match r with
  | Sum.inr (Sum.inr (Sum.inl a)) => P a M
  | _ => False
def rU (P : MM → Prop) : PV → MM → Prop := fun r M => match r with
  | Sum.inr (Sum.inr (Sum.inr _)) => P M
  | _ => False
def inR (a : Int) : Prop := -2147483648 ≤ a ∧ a < 2147483648
def inL (a : Int) : Prop := -9223372036854775808 ≤ a ∧ a < 9223372036854775808
theorem inR_to {a : Int} (h : inR a) : (Int32.ofInt a).toInt = a := by
  obtain ⟨h1, h2⟩ := h
  rw [Int32.toInt_ofInt, show Int32.size = 4294967296 from rfl]
  exact Int.bmod_eq_of_le (by omega) (by omega)
theorem inL_to {a : Int} (h : inL a) : (Int64.ofInt a).toInt = a := by
  obtain ⟨h1, h2⟩ := h
  rw [Int64.toInt_ofInt, show Int64.size = 18446744073709551616 from rfl]
  exact Int.bmod_eq_of_le (by omega) (by omega)
/-! ===== entry ===== -/
/-- the locals at the start -/
def ent (as : List PV) : List PV := as.flatMap (fun x => if isL x then [x, vU] else [x])
theorem X.entry {G : GG} {y : YY} {d k n : Nat} {as xs : List PV} {M : MM} {Q : PV → MM → Prop} (hp : plainName y.1.cls = true) (hn : (ent as).length ≤ y.2.2.1) (hu : as.all (fun x => !isU x) = true)
    (hx : (ent as) = xs.take (ent as).length) (hx2 : (xs.drop (ent as).length).all isU = true) (h : X G y d k n 0 xs [] M Q) : C G y d k n as M Q := by
  intro l
  refine Met.ofW (cc := y.2.1) (maxL := y.2.2.1) (ret := y.2.2.2) hp rfl ?_
  intro p e s m args below meth c s₁ B hml hv
  obtain ⟨rfl, hR, hN⟩ := hv
  have hlen : ∀ (as : List PV), (lg_sl (as.map (tV G))).length = (ent as).length := by
    intro as
    induction as with
    | nil => rfl
    | cons x as ih =>
      simp only [lg_sl, ent, List.map_cons, List.flatMap_cons, List.length_append] at ih ⊢
      rw [ih, tV_cat]
      cases isL x <;> simp
  have hl := lv_entry (as.map (tV G)) (n := y.2.2.1) (by rw [hlen]; exact hn)
  rw [lg_entry_eq]
  have hmem : ∀ (as : List PV) (i : Nat), as.all (fun x => !isU x) = true → ∀ q ∈ prs G i (ent as), q ∈ lv_args i (as.map (tV G)) := by
    intro as
    induction as with
    | nil => intro i _ q h; simp [ent, prs] at h
    | cons x as ih =>
      intro i ha q h
      simp only [List.all_cons, Bool.and_eq_true, Bool.not_eq_true'] at ha
      simp only [ent, List.flatMap_cons, List.map_cons, lv_args, tV_cat] at h ⊢
      by_cases hL : isL x = true
      · simp only [hL, if_true, List.cons_append, List.nil_append, prs, ha.1, Bool.false_eq_true, if_false] at h ⊢
        simp only [isU, if_true] at h
        rcases List.mem_cons.mp h with rfl | h
        · exact List.mem_cons_self
        · exact List.mem_cons_of_mem _ (ih (i + 2) ha.2 q h)
      · simp only [hL, Bool.false_eq_true, if_false, List.cons_append, List.nil_append, prs, ha.1] at h ⊢
        rcases List.mem_cons.mp h with rfl | h
        · exact List.mem_cons_self
        · exact List.mem_cons_of_mem _ (ih (i + 1) ha.2 q h)
  have happ : ∀ (a b : List PV) (i : Nat), b.all isU = true → ∀ q ∈ prs G i (a ++ b), q ∈ prs G i a := by
    intro a
    induction a with
    | nil =>
      intro b
      induction b with
      | nil => intro i _ q h; exact h
      | cons x b ih =>
        intro i hb q h
        simp only [List.all_cons, Bool.and_eq_true] at hb
        simp only [List.nil_append, prs, hb.1, if_true] at h
        have := ih (i + 1) hb.2 q h
        simp [prs] at this
    | cons x a ih =>
      intro b i hb q h
      simp only [List.cons_append, prs] at h ⊢
      split at h
      · rename_i hu; rw [if_pos hu]; exact ih b (i + 1) hb q h
      · rename_i hu; rw [if_neg hu]
        rcases List.mem_cons.mp h with rfl | h
        · exact List.mem_cons_self
        · exact List.mem_cons_of_mem _ (ih b (i + 1) hb q h)
  have hLV : LV G _ y.2.2.1 xs := LV.sub (G := G) hl (fun q hq => by
    refine hmem as 0 hu q ?_
    rw [← List.take_append_drop (ent as).length xs, ← hx] at hq
    exact happ _ _ 0 hx2 q hq)
  refine h p l e s m _ below meth c s.heap [] 0 0 k n _ ⟨B.exec, B.bytes, B.returns, hml, findClass_of_methodNamed B.named, fun w hw => atoms_spec (ws := wsO y) B.pre w (List.mem_cons_of_mem _ hw), B.notSynchronized, (name_of_methodNamed B.named B.method).1, hN, ?_⟩ (by omega) (by omega) hLV hR va_S.rf
  have := hR.2.1
  omega
