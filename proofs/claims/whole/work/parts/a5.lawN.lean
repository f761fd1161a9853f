/-! ===== law: the model, whole ===== -/
theorem upF_comm {f : Int → Int} {i j a b : Int} (h : i ≠ j) : upF (upF f i a) j b = upF (upF f j b) i a := by
  funext k
  unfold upF
  by_cases x : k = j
  · rw [if_pos x, if_neg (fun y => h (y.symm.trans x)), if_pos x]
  · rw [if_neg x]
    by_cases y : k = i
    · rw [if_pos y, if_pos y]
    · rw [if_neg y, if_neg y, if_neg x]
/-- the laws with one more -/
def upL (sm : Int → LSm) (l : Int) (v : LSm) : Int → LSm := fun k => if k = l then v else sm k
def rlR (r r' : Int → Int) : Prop := (∀ j : Int, 0 ≤ j → j < 60 → j ≠ 1 → r' j = r j) ∧ r' 1 = r 1 + 1
theorem RS.cg {r r' : Int → Int} (h : RS r) (e : ∀ j : Int, 0 ≤ j → j < 60 → r' j = r j) : RS r' := by
  obtain ⟨a1, a2, a3, a4, a5, a6, a7, a8, a9, a10, a11, a12, a13, a14, a15, a16, a17, a18, a19, a20, a21, a22, a23, a24, a25⟩ := h
  have e0 := e 0 (by decide) (by decide)
  have e1 := e 1 (by decide) (by decide)
  have e2 := e 2 (by decide) (by decide)
  have e3 := e 3 (by decide) (by decide)
  have e4 := e 4 (by decide) (by decide)
  have e5 := e 5 (by decide) (by decide)
  have e40 := e 40 (by decide) (by decide)
  have e41 := e 41 (by decide) (by decide)
  have e42 := e 42 (by decide) (by decide)
  refine ⟨by omega, by omega, fun s s0 s1 => ?_, fun s s0 s1 => ?_, by omega, by omega, by omega, by omega, by omega, by omega, by omega, by omega, by omega, by omega, by omega, by omega, fun s s0 s1 => ?_, fun s q s0 s1 s2 => ?_, by omega, by omega, by omega, by omega, fun w => by rw [e4]; exact a23 (by omega), fun s s0 s1 => ?_, fun s q s0 s1 s2 => ?_⟩
  · rw [e _ (by omega) (by omega), e _ (by omega) (by omega), e _ (by omega) (by omega)]; exact a3 s s0 s1
  · rw [e _ (by omega) (by omega), e _ (by omega) (by omega), e _ (by omega) (by omega)]; exact a4 s s0 s1
  · rw [e _ (by omega) (by omega), e0]; exact a17 s s0 (by omega)
  · rw [e _ (by omega) (by omega), e _ (by omega) (by omega)]; exact a18 s q s0 s1 (by omega)
  · rw [e (50 + s) (by omega) (by omega), e (55 + s) (by omega) (by omega), e0]; exact a24 s s0 (by omega)
  · rw [e _ (by omega) (by omega), e _ (by omega) (by omega)]; exact a25 s q s0 s1 (by omega)
theorem RS_law {r r' : Int → Int} (h : RS r) (h6 : r 1 ≠ 6) (e : rlR r r') : RS r' := by
  have hV := h
  obtain ⟨_, _, _, _, _, _, _, _, _, _, b0, b6, b2, b3, _⟩ := hV
  have h1 : RS (upF r 1 (r 1 + 1)) := h.up (by omega) (by omega) (by omega) ⟨by omega, by omega, by omega⟩ (by omega) (by omega) ⟨fun t _ _ => by omega, by omega⟩ ⟨fun t _ _ => by omega, by omega, by omega⟩
  refine h1.cg (fun j j0 j1 => ?_)
  by_cases w : j = 1
  · rw [w, upF_eq]; exact e.2
  · rw [upF_ne w]; exact e.1 j j0 j1 w
section LN
variable {G : GG} {d : Nat} {M M' M0 : MM} {Q : PV → MM → Prop} {r : Int → Int} {sm sm' : Int → LSm} {s tx : Int → Int} {L : List (Int × Int × Int)} {ri : Int → Int → Int} {si : Int → Int → LSm} {kd : Nat → Int} {N : Nat}
theorem MI.flt {K : Int → Int → Prop} {f : Int} (h : MI r sm s tx L ri si M) (fr : Fr K M M') (hK : ∀ a j, K a j → KSc a j ∨ (a = 67 ∧ j = 13)) (hS : Sh M') (e13 : rd M' 67 13 = f) : MI r sm (upF s 5 f) tx L ri si M' := by
  have h1 := h.w67 (i := 5) (j := 13) (v := f) (Or.inr (Or.inr ⟨rfl, rfl⟩))
  refine h1.scr (K := KSc) ⟨fr.1, fr.2.1, fun a j w => ?_⟩ (fun a j z => z) hS
  rw [rd_wr]
  by_cases z : a = 67 ∧ j = 13
  · rw [if_pos z, z.1, z.2]; exact e13
  · rw [if_neg z]; exact fr.2.2 a j (fun y => (hK a j y).elim w z)
theorem MI.row (h : MI r sm s tx L ri si M) (f : Fr (fun a _ => a = 69) M M') (hS : Sh M') (hr : RS (rd M' 69)) (hl : MLaws (rd M' 69) sm') (hz : Z0 (rd M' 69)) : MI (rd M' 69) sm' s tx L ri si M' := by
  obtain ⟨a1, a2, a3, ⟨b1, b2, b3, b4, b5, b6, b7, b8, b9, b10⟩, ⟨c1, c2⟩, ⟨d1, d2, d3⟩, e1, f1, f2⟩ := h
  have e : ∀ a j, a ≠ 69 → rd M' a j = rd M a j := fun a j w => f.2.2 a j w
  refine ⟨hS, rfl, ⟨hr, hl⟩, ⟨fun j => by rw [e 72 j (by decide)]; exact b1 j, ?_, ?_, ?_, ?_, ?_, ?_, ?_, ?_, ?_⟩, ⟨?_, fun k k0 k1 => ?_⟩, ⟨?_, d2, fun i hi => ?_⟩, fun k hk => ?_, hz, f2⟩
  · rw [e _ _ (by decide)]; exact b2
  · rw [e _ _ (by decide)]; exact b3
  · rw [e _ _ (by decide)]; exact b4
  · rw [e _ _ (by decide)]; exact b5
  · rw [e _ _ (by decide)]; exact b6
  · rw [e _ _ (by decide)]; exact b7
  · rw [e _ _ (by decide)]; exact b8
  · rw [e _ _ (by decide)]; exact b9
  · rw [e _ _ (by decide)]; exact b10
  · rw [e _ _ (by decide)]; exact c1
  · rw [e _ _ (by decide)]; exact c2 k k0 k1
  · rw [e _ _ (by decide)]; exact d1
  · rw [e _ _ (by decide), e _ _ (by decide), e _ _ (by decide)]; exact d3 i hi
  · rw [e _ _ (by decide)]
    exact ⟨(e1 k hk).1, fun w => ⟨fun i i0 i1 => by rw [e _ _ (by decide)]; exact ((e1 k hk).2 w).1 i i0 i1, ((e1 k hk).2 w).2⟩⟩
theorem KCl_ok {a j : Int} (h : KCl a j) : KSc a j ∨ (a = 67 ∧ j = 13) := by unfold KCl KMp at h; unfold KSc; omega
theorem KCl_md {a j : Int} (h : KCl a j) : KMd a j := by unfold KCl KMp at h; unfold KMd; omega
/-- the model begins to read -/
theorem lawM_0 (hd : 30 ≤ d) (hM : MI r sm s tx L ri si M) (h6 : r 1 ≠ 6) (hT : TkN tx (s 3) kd N) (h : ∀ M6, CtX tx (s 3) kd N → MPr M6 tx (s 3) kd N 0 0 0 → rd M6 67 15 = 0 → Fr KCl (wr M 67 0 0) M6 → RCl G d Q M6) : C G Y_X12_law d 0 0 [vA 67] M Q := by
  have hb := hM.2.2.2.2.2.2.2.2
  have hB : Byt tx (s 3) := fun i _ _ => hb.2.1 i
  have hX : CtX tx (s 3) kd N := ⟨hT, hB, hb.1.1, hb.1.2⟩
  have n1 := hM.thr (v := 0)
  have r1 : 0 ≤ r 1 ∧ r 1 ≤ 6 := by obtain ⟨_, _, _, _, _, _, _, _, _, _, a, b, _⟩ := hM.2.2.1.1; exact ⟨a, b⟩
  refine C_X12_law (B_X12_law_0 (by omega) hM.1 (fun M1 e1 s1 => ?_))
  subst e1
  rw [n1.2.1]
  refine ⟨⟨by omega, by omega⟩, fun _ => ?_, fun w => absurd w h6⟩
  refine C_X12_begin (B_X12_begin_0 (by omega) s1 (fun N1 g1 k1 N2 g2 k2 N3 g3 k3 => ?_))
  have f3 : Fr KCl (wr M 67 0 0) N3 := by rw [g3, g2, g1]; exact ((Fr.rf.wr (by unfold KCl KMp; omega)).wr (by unfold KCl KMp; omega)).wr (by unfold KCl KMp; omega)
  have T3 : TpM N3 tx (s 3) := ⟨fun j => by rw [f3.2.2 72 j (by unfold KCl KMp; omega)]; exact n1.2.2.2.1.1 j, by rw [f3.2.2 67 8 (by unfold KCl KMp; omega)]; exact n1.2.2.2.1.2.1, by rw [g3, rd_wr, if_pos ⟨rfl, rfl⟩]⟩
  have e10 : rd N3 67 10 = 0 := by rw [g3, rd_wr, if_neg (by omega), g2, rd_wr, if_neg (by omega), g1, rd_wr, if_pos ⟨rfl, rfl⟩]
  have e14 : rd N3 67 14 = 0 := by rw [g3, rd_wr, if_neg (by omega), g2, rd_wr, if_pos ⟨rfl, rfl⟩]
  refine T_X12_goOn (by omega) k3 hB hb.1.2 T3 e10 (by decide) hb.1.1 (fun w => (hT.2.1 0).1 w) (fun w => (hT.2.1 0).2 w) (fun N4 k4 F4 A4 => ⟨k4, k4, fun N5 g5 k5 N6 g6 k6 N7 g7 k7 => ?_⟩)
  have q : ∀ a j, ¬ (a = 67 ∧ (j = 15 ∨ j = 17 ∨ j = 20)) → rd N7 a j = rd N4 a j := fun a j w => by rw [g7, rd_wr, if_neg (by omega), g6, rd_wr, if_neg (by omega), g5, rd_wr, if_neg (by omega)]
  have T4 := T3.fr F4
  refine h N7 hX ⟨⟨k7, ⟨fun j => by rw [q 72 j (by omega)]; exact T4.1 j, by rw [q _ _ (by omega)]; exact T4.2.1, by rw [q _ _ (by omega)]; exact T4.2.2⟩, A4.fr (q _ _ (by omega)) (q _ _ (by omega)) (q _ _ (by omega)) (q _ _ (by omega)), by rw [q _ _ (by omega), F4.2.2 67 14 (by unfold KTm; omega)]; exact e14⟩, ⟨by rw [g7, rd_wr, if_pos ⟨rfl, rfl⟩]; rfl, by rw [g7, rd_wr, if_neg (by omega), g6, rd_wr, if_pos ⟨rfl, rfl⟩]; rfl⟩, fun k k0 k1 => ?_, Nat.zero_le _, Nat.zero_le _, Nat.le_refl _⟩ ?_ ?_
  · rw [q 78 k (by omega), F4.2.2 78 k (by unfold KTm; omega), f3.2.2 78 k (by unfold KCl KMp; omega)]; exact n1.2.2.2.2.1.2 k k0 k1
  · rw [g7, rd_wr, if_neg (by omega), g6, rd_wr, if_neg (by omega), g5, rd_wr, if_pos ⟨rfl, rfl⟩]
  · rw [g7, g6, g5]
    exact (((f3.tr (F4.mono (fun a j z => by unfold KTm at z; unfold KCl KMp; omega))).wr (by unfold KCl KMp; omega)).wr (by unfold KCl KMp; omega)).wr (by unfold KCl KMp; omega)
theorem lawM_F (hd : 30 ≤ d) (hM : MI r sm s tx L ri si M) (h6 : r 1 ≠ 6) (hT : TkN tx (s 3) kd N) {a : Nat} (hF : LwF kd a) (h : ∀ M', MI r sm (refS (upF (upF s 3 0) 5 (plT tx (s 3) a)) (-6)) tx L ri si M' → Fr KMd M M' → Q (vI (-6)) M') : C G Y_X12_law d 0 0 [vA 67] M Q := by
  refine lawM_0 hd hM h6 hT (fun M6 hX hP h15 f6 => lawM_N (by omega) hX hF hP h15 (fun M7 F7 f7 => ?_))
  have ff := f6.tr f7
  have m7 : MI r sm (upF s 5 (plT tx (s 3) a)) tx L ri si M7 := (hM.thr (v := 0)).flt ff (fun a j z => KCl_ok z) F7.1 F7.2.2.1
  refine B_X12_law_97 (by omega) F7.1 (fun N1 g1 k1 => ?_)
  have e14 : rd N1 67 14 = 1 := by rw [g1, rd_wr, if_neg (by omega)]; exact F7.2.1
  refine ⟨by rw [e14]; exact ⟨by decide, by decide⟩, fun w => absurd (e14.symm.trans w) (by decide), fun _ N7 g7 k7 => ?_⟩
  have m8 : MI r sm (upF (upF s 3 0) 5 (plT tx (s 3) a)) tx L ri si N1 := by
    have := m7.w67 (i := 3) (j := 8) (v := 0) (Or.inl ⟨rfl, rfl, by decide, by decide⟩)
    rw [upF_comm (by decide)] at this
    rw [g1]; exact this
  rw [g7]
  exact h _ (m8.telR (by decide)) (((((Fr.rf.wr (K := KMd) ⟨by decide, by decide⟩).tr (ff.mono (fun a j z => KCl_md z))).wr (a := 67) (i := 8) (v := 0) ⟨by decide, by decide⟩).tel ⟨by decide, by decide⟩ (fun _ => ⟨by decide, by decide⟩) : Fr KMd M (telM (wr M7 67 8 0) (-6))) |> fun z => by rw [g1]; exact z)
/-- the row's place for the law -/
theorem mlaw_of {cs : List Cls} {l : Int} {n : Nat} {r' : Int → Int} (hl : cs.length ≤ 12) (hn : n ≤ 400) (hm : MCls M cs n) (e1 : r' (60 + 900 * l + 1) = cs.length) (e2 : ∀ k : Int, 0 ≤ k → k < 8 * (cs.length : Int) → r' (60 + 900 * l + 2 + k) = rd M 73 k) (e3 : ∀ k : Int, 0 ≤ k → k < n → r' (60 + 900 * l + 98 + 2 * k) = rd M 74 k ∧ r' (60 + 900 * l + 98 + 2 * k + 1) = rd M 75 k) : MLaw r' l (lsm cs) := by
  obtain ⟨e, x0, x1, h⟩ := hm
  refine ⟨e1, by show (0 : Int) ≤ cs.length; omega, by show (cs.length : Int) ≤ 12; omega, fun c c0 c1 => ?_⟩
  have c1 : c < (cs.length : Int) := c1
  have hk : c.toNat < cs.length := by omega
  have hc : ((c.toNat : Nat) : Int) = c := by omega
  obtain ⟨y, z1, z2, z3, z4, z5, z6, z7, z8, z9⟩ := h c.toNat hk
  rw [hc] at z1 z3 z4 z5 z6 z7 z8 z9
  have q : ∀ j : Int, 0 ≤ j → j < 8 → r' (60 + 900 * l + 2 + 8 * c + j) = rd M 73 (8 * c + j) := fun j j0 j1 => by
    rw [← e2 (8 * c + j) (by omega) (by omega)]; congr 1; omega
  have q0 : r' (60 + 900 * l + 2 + 8 * c) = rd M 73 (8 * c) := by rw [← e2 (8 * c) (by omega) (by omega)]
  rw [q0, q 3 (by decide) (by decide), q 4 (by decide) (by decide), q 5 (by decide) (by decide), q 6 (by decide) (by decide), z3, z4, z5]
  refine ⟨z1, z2, ⟨by omega, by omega, by omega, z8.cg (fun k k0 k1 => e3 k (by omega) (by omega))⟩, ⟨by omega, by omega, by omega, ?_⟩⟩
  rcases z9 with ⟨w, w2⟩ | ⟨w, v, w2, w3⟩
  · refine Or.inl ⟨w, ?_⟩
    show (match (cs.getD c.toNat (0, dV0, none)).2.2 with
      | some w => w
      | none => fun _ => some 1) = fun _ => some 1
    rw [w2]
  · refine Or.inr ⟨w, ?_⟩
    have ev : (lsm cs).2.2.2 c = v := by
      show (match (cs.getD c.toNat (0, dV0, none)).2.2 with
        | some w => w
        | none => fun _ => some 1) = v
      rw [w2]
    rw [ev]
    exact w3.cg (fun k k0 k1 => e3 k (by omega) (by omega))
theorem lawM_T (hd : 30 ≤ d) (hM : MI r sm s tx L ri si M) (h6 : r 1 ≠ 6) (hT : TkN tx (s 3) kd N) {cs : List Cls} (hG : LwG kd cs) (h : ∀ M' r', rlR r r' → MI r' (upL sm (r 1) (lsm cs)) (accS (upF (upF s 3 0) 5 (-1))) tx L ri si M' → Fr KMd M M' → Q (vI (r 1)) M') : C G Y_X12_law d 0 0 [vA 67] M Q := by
  have hV := hM.2.2.1.1
  have r1 : 0 ≤ r 1 ∧ r 1 ≤ 6 := by obtain ⟨_, _, _, _, _, _, _, _, _, _, a, b, _⟩ := hV; exact ⟨a, b⟩
  refine lawM_0 hd hM h6 hT (fun M6 hX hP h15 f6 => lawM_Y (by omega) hX hG hP h15 (fun M7 n s7 e14 T7 e15 hl12 e17 hn m7 f7 => ?_))
  have ff := f6.tr f7
  have p7 : MI r sm (upF s 5 (-1)) tx L ri si M7 := (hM.thr (v := 0)).flt ff (fun a j z => KCl_ok z) s7 T7.2.2
  have fM7 : Fr KMd M M7 := (Fr.rf.wr (K := KMd) ⟨by decide, by decide⟩).tr (ff.mono (fun a j z => KCl_md z))
  refine B_X12_law_97 (by omega) s7 (fun N1 g1 k1 => ?_)
  have f1 : Fr (fun a j => a = 67 ∧ j = 8) M7 N1 := by rw [g1]; exact Fr.rf.wr ⟨rfl, rfl⟩
  have p1 : MI r sm (upF (upF s 3 0) 5 (-1)) tx L ri si N1 := by
    have := p7.w67 (i := 3) (j := 8) (v := 0) (Or.inl ⟨rfl, rfl, by decide, by decide⟩)
    rw [upF_comm (by decide)] at this
    rw [g1]; exact this
  have fM1 : Fr KMd M N1 := fM7.tr (f1.mono (fun a j z => by unfold KMd; omega))
  have m1 : MCls N1 cs n := m7.cg (fun j _ => f1.2.2 73 j (by omega)) (fun k _ => ⟨f1.2.2 74 k (by omega), f1.2.2 75 k (by omega)⟩)
  have y14 : rd N1 67 14 = 0 := by rw [f1.2.2 67 14 (by decide)]; exact e14
  have y15 : rd N1 67 15 = cs.length := by rw [f1.2.2 67 15 (by decide)]; exact e15
  have y17 : rd N1 67 17 = n := by rw [f1.2.2 67 17 (by decide)]; exact e17
  refine ⟨by rw [y14]; exact ⟨by decide, by decide⟩, fun _ v3 e3 => ?_, fun w => absurd y14 w⟩
  rw [p1.2.1] at e3
  refine ⟨by omega, by omega, fun N6 g6 k6 => ?_⟩
  rw [y15] at g6
  -- what the row's new part is
  have fin : ∀ Mk, Sh Mk → Fr (fun a j => a = 69 ∧ v3 < j ∧ j < v3 + 900) N1 Mk → rd Mk 69 (v3 + 1) = cs.length → (∀ k : Int, 0 ≤ k → k < 8 * (cs.length : Int) → rd Mk 69 (v3 + 2 + k) = rd N1 73 k) → (∀ k : Int, 0 ≤ k → k < n → rd Mk 69 (v3 + 98 + 2 * k) = rd N1 74 k ∧ rd Mk 69 (v3 + 98 + 2 * k + 1) = rd N1 75 k) → X G Y_X12_law d 0 0 179 [vA 67, vI v3, vI n] [] Mk Q := by
    intro Mk sk fk c1 c2 c3
    have z17 : rd Mk 67 17 = n := by rw [fk.2.2 67 17 (by omega)]; exact y17
    have z1 : rd Mk 69 1 = r 1 := by rw [fk.2.2 69 1 (by omega), p1.2.1]
    refine B_X12_law_179 (by omega) sk ?_
    rw [z17, z1]
    refine ⟨⟨by omega, by omega⟩, ⟨by omega, by omega⟩, fun _ N3 g3 k3 => ?_, fun w => by omega⟩
    have z3 : rd N3 69 1 = r 1 + 1 := by rw [g3, rd_wr, if_pos ⟨rfl, rfl⟩]
    rw [z3]
    refine ⟨⟨by omega, by omega, by omega⟩, fun N5 g5 k5 => ?_⟩
    have f3 : Fr (fun a _ => a = 69) N1 N3 := by rw [g3]; exact (fk.mono (fun a j z => z.1)).wr rfl
    have x : ∀ j : Int, j ≠ 1 → ¬ (v3 < j ∧ j < v3 + 900) → rd N3 69 j = r j := fun j w w2 => by rw [g3, rd_wr, if_neg (fun z => w z.2), fk.2.2 69 j (by omega), p1.2.1]
    have xx : ∀ j : Int, j ≠ 1 → rd N3 69 j = rd Mk 69 j := fun j w => by rw [g3, rd_wr, if_neg (fun z => w z.2)]
    have hrl : rlR r (rd N3 69) := ⟨fun j j0 j1 j2 => x j j2 (by omega), z3⟩
    have hls : MLaws (rd N3 69) (upL sm (r 1) (lsm cs)) := fun l l0 l1 => by
      rw [z3] at l1
      unfold upL
      by_cases w : l = r 1
      · rw [if_pos w]
        have e60 : v3 = 60 + 900 * l := by rw [w]; exact e3
        rw [e60] at c1 c2 c3
        exact mlaw_of hl12 hn m1 (by rw [xx _ (by omega)]; exact c1) (fun k k0 k1 => by rw [xx _ (by omega)]; exact c2 k k0 k1) (fun k k0 k1 => by rw [xx _ (by omega), xx _ (by omega)]; exact c3 k k0 k1)
      · rw [if_neg w]
        exact (p1.2.2.1.2 l l0 (by omega)).cg (fun j j0 j1 => x j (by omega) (by omega))
    have hz : Z0 (rd N3 69) := fun j hj => by
      rw [x j (by omega) (by omega)]
      exact p1.2.2.2.2.2.2.2.1 j hj
    have p3 := p1.row f3 k3 (RS_law hV h6 hrl) hls hz
    have e5 : r 1 + 1 - 1 = r 1 := by omega
    rw [e5] at g5 ⊢
    rw [g5]
    exact h _ _ hrl (p3.telA r1.1) ((fM1.tr (f3.mono (fun a j z => by unfold KMd; omega))).tel ⟨by decide, by decide⟩ (fun _ => ⟨by decide, by decide⟩))
  have lp2 : ∀ m k : Nat, k + m = n → ∀ Mk, Sh Mk → Fr (fun a j => a = 69 ∧ v3 < j ∧ j < v3 + 900) N1 Mk → rd Mk 69 (v3 + 1) = cs.length → (∀ k : Int, 0 ≤ k → k < 8 * (cs.length : Int) → rd Mk 69 (v3 + 2 + k) = rd N1 73 k) → (∀ i : Int, 0 ≤ i → i < k → rd Mk 69 (v3 + 98 + 2 * i) = rd N1 74 i ∧ rd Mk 69 (v3 + 98 + 2 * i + 1) = rd N1 75 i) → X G Y_X12_law d 0 0 179 [vA 67, vI v3, vI k] [] Mk Q := by
    intro m
    induction m with
    | zero =>
      intro k hk Mk sk fk c1 c2 c3
      have ek : k = n := by omega
      rw [ek] at c3 ⊢
      exact fin Mk sk fk c1 c2 c3
    | succ m ih =>
      intro k hk Mk sk fk c1 c2 c3
      have z17 : rd Mk 67 17 = n := by rw [fk.2.2 67 17 (by omega)]; exact y17
      refine B_X12_law_179 (by omega) sk ?_
      rw [z17]
      refine ⟨⟨by omega, by omega⟩, ⟨by omega, by omega⟩, fun w => by omega, fun _ => ⟨by omega, by omega, by omega, by omega, fun N10 g10 k10 => ⟨by omega, by omega, fun N13 g13 k13 => ?_⟩⟩⟩
      have q : ∀ j : Int, j ≠ v3 + 98 + 2 * (k : Int) → j ≠ v3 + 98 + 2 * (k : Int) + 1 → rd N13 69 j = rd Mk 69 j := fun j w w2 => by rw [g13, rd_wr, if_neg (fun z => w2 z.2), g10, rd_wr, if_neg (fun z => w z.2)]
      have e74 : rd Mk 74 k = rd N1 74 k := fk.2.2 74 k (by omega)
      have e75 : rd N10 75 k = rd N1 75 k := by rw [g10, rd_wr, if_neg (by omega)]; exact fk.2.2 75 k (by omega)
      have g := ih (k + 1) (by omega) N13 k13 (by rw [g13, g10]; exact (fk.wr ⟨rfl, by omega, by omega⟩).wr ⟨rfl, by omega, by omega⟩) (by rw [q _ (by omega) (by omega)]; exact c1) (fun i i0 i1 => by rw [q _ (by omega) (by omega)]; exact c2 i i0 i1) (fun i i0 i1 => ?_)
      · rw [show ((k + 1 : Nat) : Int) = (k : Int) + 1 by omega] at g
        exact g
      · by_cases w : i = k
        · rw [w]
          refine ⟨?_, ?_⟩
          · rw [g13, rd_wr, if_neg (by omega), g10, rd_wr, if_pos ⟨rfl, rfl⟩]; exact e74
          · rw [g13, rd_wr, if_pos ⟨rfl, rfl⟩]; exact e75
        · rw [q _ (by omega) (by omega), q _ (by omega) (by omega)]; exact c3 i i0 (by omega)
  have lp1 : ∀ m k : Nat, k + m = 8 * cs.length → ∀ Mk, Sh Mk → Fr (fun a j => a = 69 ∧ v3 < j ∧ j < v3 + 900) N1 Mk → rd Mk 69 (v3 + 1) = cs.length → (∀ i : Int, 0 ≤ i → i < k → rd Mk 69 (v3 + 2 + i) = rd N1 73 i) → X G Y_X12_law d 0 0 144 [vA 67, vI v3, vI k] [] Mk Q := by
    intro m
    induction m with
    | zero =>
      intro k hk Mk sk fk c1 c2
      have z15 : rd Mk 67 15 = cs.length := by rw [fk.2.2 67 15 (by omega)]; exact y15
      refine B_X12_law_144 (by omega) sk ?_
      rw [z15]
      exact ⟨⟨by omega, by omega⟩, ⟨by omega, by omega⟩, fun _ => lp2 n 0 (by omega) Mk sk fk c1 (fun i i0 i1 => c2 i i0 (by omega)) (fun i i0 i1 => by omega), fun w => by omega⟩
    | succ m ih =>
      intro k hk Mk sk fk c1 c2
      have z15 : rd Mk 67 15 = cs.length := by rw [fk.2.2 67 15 (by omega)]; exact y15
      refine B_X12_law_144 (by omega) sk ?_
      rw [z15]
      refine ⟨⟨by omega, by omega⟩, ⟨by omega, by omega⟩, fun w => by omega, fun _ => ⟨by omega, by omega, by omega, by omega, fun N7 g7 k7 => ?_⟩⟩
      have e73 : rd Mk 73 k = rd N1 73 k := fk.2.2 73 k (by omega)
      have g := ih (k + 1) (by omega) N7 k7 (by rw [g7]; exact fk.wr ⟨rfl, by omega, by omega⟩) (by rw [g7, rd_wr, if_neg (by omega)]; exact c1) (fun i i0 i1 => ?_)
      · rw [show ((k + 1 : Nat) : Int) = (k : Int) + 1 by omega] at g
        exact g
      · rw [g7, rd_wr]
        by_cases w : i = k
        · rw [if_pos ⟨rfl, by omega⟩, w]; exact e73
        · rw [if_neg (by omega)]; exact c2 i i0 (by omega)
  exact lp1 (8 * cs.length) 0 (by omega) N6 k6 (by rw [g6]; exact Fr.rf.wr ⟨rfl, by omega, by omega⟩) (by rw [g6, rd_wr, if_pos ⟨rfl, rfl⟩]) (fun i i0 i1 => by omega)
end LN
