/-! ===== clauses; a law ===== -/
abbrev Cls : Type := Int × SV × Option SV
/-- how a clause is read -/
def ClD (kd : Nat → Int) (at' pt a p : Nat) : Option Cls → Prop
  | none => (kd at' ≠ 300 ∧ kd at' ≠ 301 ∧ a = at' ∧ p = pt) ∨ ((kd at' = 300 ∨ kd at' = 301) ∧ (Der kd 0 0 (at' + 1) pt dV0 (a, p, none) ∨ ∃ (a1 p1 : Nat) (v : SV), Der kd 0 0 (at' + 1) pt dV0 (a1, p1, some v) ∧ kd a1 = 302 ∧ Der kd 3 0 (a1 + 1) p1 dV0 (a, p, none)))
  | some c => (kd at' = 300 ∨ kd at' = 301) ∧ c.1 = kd at' - 300 ∧ ((c.2.2 = none ∧ kd a ≠ 302 ∧ Der kd 0 0 (at' + 1) pt dV0 (a, p, some c.2.1)) ∨ ∃ (a1 p1 : Nat) (w : SV), c.2.2 = some w ∧ Der kd 0 0 (at' + 1) pt dV0 (a1, p1, some c.2.1) ∧ kd a1 = 302 ∧ Der kd 3 0 (a1 + 1) p1 dV0 (a, p, some w))
/-- clauses one after the other, each with its sign behind it -/
def ChD (kd : Nat → Int) : Nat → Nat → List Cls → Nat → Nat → Prop
  | at', pt, [], a, p => at' = a ∧ pt = p
  | at', pt, c :: cs, a, p => ∃ a1 p1 : Nat, ClD kd at' pt a1 p1 (some c) ∧ kd a1 = 59 ∧ ChD kd (a1 + 1) p1 cs a p
theorem ChD.add {kd : Nat → Int} {c : Cls} {a1 p1 : Nat} : ∀ (cs : List Cls) (at' pt a p : Nat), ChD kd at' pt cs a p → ClD kd a p a1 p1 (some c) → kd a1 = 59 → ChD kd at' pt (cs ++ [c]) (a1 + 1) p1
  | [], at', pt, a, p, h, hc, hk => by
    obtain ⟨h1, h2⟩ := h
    subst h1 h2
    exact ⟨a1, p1, hc, hk, rfl, rfl⟩
  | x :: cs, at', pt, a, p, h, hc, hk => by
    obtain ⟨b, q, h1, h2, h3⟩ := h
    exact ⟨b, q, h1, h2, ChD.add cs (b + 1) q a p h3 hc hk⟩
/-- a text that is no law: the token at a is its fault -/
def LwF (kd : Nat → Int) (a : Nat) : Prop := ∃ (cs : List Cls) (at' pt : Nat), ChD kd 0 0 cs at' pt ∧ cs.length ≤ 12 ∧ ((cs.length = 12 ∧ a = at') ∨ (cs.length < 12 ∧ ∃ p, ClD kd at' pt a p none) ∨ (cs.length < 12 ∧ ∃ p c, ClD kd at' pt a p (some c) ∧ kd a ≠ 256 ∧ kd a ≠ 59))
/-- a text that is a law -/
def LwG (kd : Nat → Int) (cs' : List Cls) : Prop := ∃ (cs : List Cls) (at' pt a p : Nat) (c : Cls), ChD kd 0 0 cs at' pt ∧ cs.length < 12 ∧ ClD kd at' pt a p (some c) ∧ kd a = 256 ∧ cs' = cs ++ [c]
/-- a clause in the reader's memory -/
def CRd (M : MM) (i : Int) (c : Cls) : Prop := rd M 19 i = c.1 ∧ (c.1 = 0 ∨ c.1 = 1) ∧ 0 ≤ rd M 20 i ∧ ∃ mid : Int, rd M 20 i < mid ∧ mid ≤ rd M 20 (i + 1) ∧ rd M 20 (i + 1) ≤ 400 ∧ Frg (opC (rd M 21)) (arC (rd M 21)) (rd M 20 i) mid 50 c.2.1 ∧ ((mid = rd M 20 (i + 1) ∧ c.2.2 = none) ∨ (mid < rd M 20 (i + 1) ∧ ∃ w, c.2.2 = some w ∧ Frg (opC (rd M 21)) (arC (rd M 21)) mid (rd M 20 (i + 1)) 50 w))
def KRl (a j : Int) : Prop := KRd a j ∨ a = 19 ∨ (a = 20 ∧ j ≠ 0) ∨ (a = 16 ∧ j = 4)
def CRds (M : MM) (cs : List Cls) : Prop := rd M 20 0 = 0 ∧ ∀ i : Nat, i < cs.length → CRd M i (cs.getD i (0, dV0, none))
section PC3
variable {G : GG} {d : Nat} {M M1 : MM} {Q : PV → MM → Prop} {kd : Nat → Int} {N at' pt sz : Nat}
theorem CRd.fr {M M' : MM} {i : Int} {c : Cls} {b : Int} (h : CRd M i c) (hb : rd M 20 (i + 1) ≤ b) (h19 : rd M' 19 i = rd M 19 i) (h20 : rd M' 20 i = rd M 20 i) (h21 : rd M' 20 (i + 1) = rd M 20 (i + 1)) (hc : ∀ k : Int, 0 ≤ k → k < b → rd M' 21 k = rd M 21 k) : CRd M' i c := by
  obtain ⟨h1, h2, h3, mid, h4, h5, h6, h7, h8⟩ := h
  unfold CRd
  rw [h19, h20, h21]
  refine ⟨h1, h2, h3, mid, h4, h5, h6, h7.cg (opC_cg (fun k k0 k1 => hc k (by omega) (by omega))), ?_⟩
  rcases h8 with h8 | ⟨h8, w, h9, h10⟩
  · exact Or.inl h8
  · exact Or.inr ⟨h8, w, h9, h10.cg (opC_cg (fun k k0 k1 => hc k (by omega) (by omega)))⟩
/-- the reader between two clauses -/
def RdL (M : MM) (kd : Nat → Int) (N at' pt sz : Nat) (cs : List Cls) : Prop := RI M kd N at' pt sz ∧ rd M 16 4 = cs.length ∧ rd M 20 cs.length = sz ∧ CRds M cs ∧ ∀ i : Nat, i < cs.length → rd M 20 ((i : Int) + 1) ≤ sz
theorem T_X7_clause {cs : List Cls} (hd : 42 ≤ d) (hK : KD kd N) (hL : RdL M kd N at' pt sz cs) (hl : cs.length < 12)
    (hq0 : ∀ M' a p, Sh M' → Fr KRl M M' → ClD kd at' pt a p none → rd M' 16 2 = a → a ≤ N → Q (vI 0) M')
    (hq1 : ∀ M' a p s c, Fr KRl M M' → ClD kd at' pt a p (some c) → at' < a → RdL M' kd N a p s (cs ++ [c]) → Q (vI 1) M') : C G Y_X7_clause d 0 0 [vA 16] M Q := by
  obtain ⟨hI, h4, h20, ⟨h200, hcr⟩, hmx⟩ := hL
  have hN := hI.2.2.2.2.2.1
  have h8 := hI.2.2.2.2.2.2.2
  have hN4 := hK.1
  have hCS : PsS G kd N (d - 1) 0 0 := PsS_all hK 8 _ 0 rfl (by omega)
  have hCT : PsT G kd N (d - 1) 0 0 := PsT_all hK 8 _ 0 rfl (by omega)
  refine C_X7_clause (B_X7_clause_0 (by omega) hI.1 ⟨(hI.b hK).1, (hI.b hK).2, fun v3 e3 => ?_⟩)
  rw [hI.k] at e3
  have hkr := hK.r hN
  refine ⟨by
    by_cases y : at' < N
    · have := hK.2.1 at' y; exact ⟨by omega, by omega⟩
    · have : at' = N := by omega
      rw [e3, this, hK.2.2]; exact ⟨by decide, by decide⟩, fun q => ?_, fun q => ?_⟩
  · have hk : kd at' = 300 ∨ kd at' = 301 := by omega
    have aN : at' < N := hK.lt hN (by omega)
    refine B_X7_clause_25 (by omega) hI.1 ⟨by omega, by omega, fun M3 e3' s3 M4 e4 s4 => ?_⟩
    have I3 : RI M3 kd N at' pt sz := by
      obtain ⟨g1, g2, g3, g4, g5, g6, g7, g8⟩ := hI
      refine ⟨s3, fun i hi => ?_, ?_, ?_, ?_, g6, g7, g8⟩
      · rw [e3', rd_wr, if_neg (by omega)]; exact g2 i hi
      · rw [e3', rd_wr, if_neg (by omega)]; exact g3
      · rw [e3', rd_wr, if_neg (by omega)]; exact g4
      · rw [e3', rd_wr, if_neg (by omega)]; exact g5
    obtain ⟨I4, F4, C4⟩ := I3.adv e4 s4 aN
    have F3 : Fr KRl M M3 := by rw [e3']; exact Fr.rf.wr (Or.inr (Or.inl rfl))
    have F34 : Fr KRl M M4 := F3.tr (F4.mono (fun _ _ => Or.inl))
    have fin : ∀ (M6 : MM) (a p s : Nat) (c : Cls) (mid : Int), Fr KRd M4 M6 → (∀ k : Int, 0 ≤ k → k < sz → rd M6 21 k = rd M 21 k) → RI M6 kd N a p s → at' < a → c.1 = v3 → (sz : Int) < mid → mid ≤ s → ClD kd at' pt a p (some c) → Frg (opC (rd M6 21)) (arC (rd M6 21)) sz mid 50 c.2.1 → ((mid = s ∧ c.2.2 = none) ∨ (mid < s ∧ ∃ w, c.2.2 = some w ∧ Frg (opC (rd M6 21)) (arC (rd M6 21)) mid s 50 w)) → X G Y_X7_clause d 0 0 92 [vA 16, vI v3] [] M6 Q := by
      intro M6 a p s c mid F6 C6 I6 a6 c1 m1 m2 D6 f6 g6
      have nF : ∀ a j, ¬ KRd a j → rd M6 a j = rd M4 a j := F6.2.2
      have k164 : rd M6 16 4 = cs.length := by
        rw [nF 16 4 (by unfold KRd; omega), e4, rd_wr, if_neg (by omega), e3', rd_wr, if_neg (by omega)]; exact h4
      refine B_X7_clause_92 (by omega) I6.1 (fun M7 e7 s7 => ?_)
      have e74 : rd M7 16 4 = (cs.length : Int) + 1 := by rw [e7, rd_wr, if_pos ⟨rfl, rfl⟩, k164]
      refine ⟨by omega, by omega, fun M8 e8 s8 => ?_⟩
      have sE : rd M7 16 8 = s := by rw [e7, rd_wr, if_neg (by omega)]; exact I6.2.2.2.2.1
      rw [e74, sE] at e8
      have r8 : ∀ a j, rd M8 a j = if a = 20 ∧ j = (cs.length : Int) + 1 then (s : Int) else if a = 16 ∧ j = 4 then (cs.length : Int) + 1 else rd M6 a j := fun a j => by rw [e8, rd_wr, e7, rd_wr, k164]
      have r19 : ∀ j, rd M8 19 j = if j = (cs.length : Int) then v3 else rd M 19 j := fun j => by
        rw [r8, if_neg (by omega), if_neg (by omega), nF 19 j (by unfold KRd; omega), e4, rd_wr, if_neg (by omega), e3', rd_wr, h4]
        by_cases y : j = (cs.length : Int)
        · rw [if_pos ⟨rfl, y⟩, if_pos y]
        · rw [if_neg (fun z => y z.2), if_neg y]
      have r20 : ∀ j, j ≠ (cs.length : Int) + 1 → rd M8 20 j = rd M 20 j := fun j hj => by
        rw [r8, if_neg (fun z => hj z.2), if_neg (by omega), nF 20 j (by unfold KRd; omega), e4, rd_wr, if_neg (by omega), e3', rd_wr, if_neg (by omega)]
      have r20' : rd M8 20 ((cs.length : Int) + 1) = s := by rw [r8, if_pos ⟨rfl, rfl⟩]
      have r21 : ∀ j, rd M8 21 j = rd M6 21 j := fun j => by rw [r8, if_neg (by omega), if_neg (by omega)]
      have hs4 : (s : Int) ≤ 400 := by have := I6.2.2.2.2.2.2.2; have := I6.2.2.2.2.2.1; omega
      have hlen : ((cs ++ [c]).length : Int) = (cs.length : Int) + 1 := by simp
      refine hq1 M8 a p s c ?_ D6 a6 ⟨?_, ?_, ?_, ⟨?_, ?_⟩, ?_⟩
      · rw [e8, e7]
        exact ((F34.tr (F6.mono (fun _ _ => Or.inl))).wr (Or.inr (Or.inr (Or.inr ⟨rfl, rfl⟩)))).wr (Or.inr (Or.inr (Or.inl ⟨rfl, by omega⟩)))
      · obtain ⟨g1, g2, g3, g4, g5, g6', g7, g8⟩ := I6
        refine ⟨s8, fun i hi => ?_, ?_, ?_, ?_, g6', g7, g8⟩
        · rw [r8, if_neg (by omega), if_neg (by omega)]; exact g2 i hi
        · rw [r8, if_neg (by omega), if_neg (by omega)]; exact g3
        · rw [r8, if_neg (by omega), if_neg (by omega)]; exact g4
        · rw [r8, if_neg (by omega), if_neg (by omega)]; exact g5
      · rw [hlen, r8, if_neg (by omega), if_pos ⟨rfl, rfl⟩]
      · rw [hlen]; exact r20'
      · rw [r20 0 (by omega)]; exact h200
      · intro i hi
        simp only [List.length_append, List.length_cons, List.length_nil] at hi
        by_cases y : i = cs.length
        · subst y
          have eg : (cs ++ [c]).getD cs.length (0, dV0, none) = c := by simp
          rw [eg]
          refine ⟨?_, by omega, ?_, mid, ?_, ?_, ?_, ?_, ?_⟩
          · rw [r19, if_pos rfl]; exact c1.symm
          · rw [r20 _ (by omega), h20]; omega
          · rw [r20 _ (by omega), h20]; exact m1
          · rw [r20']; exact m2
          · rw [r20']; exact hs4
          · rw [r20 _ (by omega), h20]; exact f6.cg (opC_cg (fun k _ _ => r21 k))
          · rw [r20']
            rcases g6 with g | ⟨g, w, g1, g2⟩
            · exact Or.inl g
            · exact Or.inr ⟨g, w, g1, g2.cg (opC_cg (fun k _ _ => r21 k))⟩
        · have hi' : i < cs.length := by omega
          have eg : (cs ++ [c]).getD i (0, dV0, none) = cs.getD i (0, dV0, none) := by
            rw [List.getD_eq_getElem?_getD, List.getD_eq_getElem?_getD, List.getElem?_append_left hi']
          rw [eg]
          exact (hcr i hi').fr (b := sz) (hmx i hi') (by rw [r19, if_neg (by omega)]) (r20 _ (by omega)) (r20 _ (by omega)) (fun k k0 k1 => by rw [r21, C6 k k0 k1])
      · intro i hi
        simp only [List.length_append, List.length_cons, List.length_nil] at hi
        by_cases y : i = cs.length
        · subst y; rw [r20']; omega
        · rw [r20 _ (by omega)]
          have := hmx i (by omega)
          omega
    refine hCS M4 _ (at' + 1) pt sz I4 (fun M5 r hR => ⟨hR.1, hR.z.1, fun r1 => ?_, fun r0 => ?_⟩)
    · obtain ⟨a, p, s, v, D1, I1, a1, p1, s1, sa1, f1, -⟩ := hR.good r1
      have hNa := I1.2.2.2.2.2.1
      have hp5 := I1.2.2.2.2.2.2.1
      have C5 : ∀ k : Int, 0 ≤ k → k < sz → rd M5 21 k = rd M 21 k := fun k k0 k1 => by rw [hR.2.2.1 k k0 k1, C4, e3', rd_wr, if_neg (by omega)]
      refine ⟨(I1.b hK).1, (I1.b hK).2, by rw [I1.k]; exact hK.r hNa, fun y => ?_, fun y M11 e11 s11 => ?_⟩
      · rw [I1.k] at y
        exact fin M5 a p s (v3, v, none) s hR.2.1 C5 I1 (by omega) rfl (by omega) (Int.le_refl _) ⟨hk, e3, Or.inl ⟨rfl, y, D1⟩⟩ (f1.mono (by omega)) (Or.inl ⟨rfl, rfl⟩)
      · rw [I1.k] at y
        obtain ⟨I11, F11, C11⟩ := I1.adv e11 s11 (hK.lt hNa (by rw [y]; decide))
        refine hCT M11 _ (a + 1) p s I11 (fun M12 r2 hR2 => ⟨hR2.1, hR2.z.1, fun r1' => ?_, fun r0' => ?_⟩)
        · obtain ⟨a2, p2, s2, u, D2, I2, a3, p3, s3', sa3, f3, -⟩ := hR2.good r1'
          have hp2 := I2.2.2.2.2.2.2.1
          refine fin M12 a2 p2 s2 (v3, v, some u) s ((hR.2.1.tr F11).tr hR2.2.1) (fun k k0 k1 => by rw [hR2.2.2.1 k k0 (by omega), C11]; exact C5 k k0 k1) I2 (by omega) rfl (by omega) (by omega) ⟨hk, e3, Or.inr ⟨a, p, u, rfl, D1, y, D2⟩⟩ ((f1.mono (by omega)).cg (opC_cg (fun k k0 k1 => by rw [hR2.2.2.1 k (by omega) k1, C11]))) (Or.inr ⟨by omega, u, rfl, f3.mono (by omega)⟩)
        · subst r0'
          obtain ⟨a2, p2, D2, b1, b2⟩ := hR2.fail
          exact hq0 M12 a2 p2 hR2.1 (F34.tr (((hR.2.1.tr F11).tr hR2.2.1).mono (fun _ _ => Or.inl))) (Or.inr ⟨hk, Or.inr ⟨a, p, v, D1, y, D2⟩⟩) b1 b2
    · subst r0
      obtain ⟨a, p, D1, b1, b2⟩ := hR.fail
      exact hq0 M5 a p hR.1 (F34.tr (hR.2.1.mono (fun _ _ => Or.inl))) (Or.inr ⟨hk, Or.inl D1⟩) b1 b2
  · exact hq0 M at' pt hI.1 Fr.rf (Or.inl ⟨by omega, by omega, rfl, rfl⟩) hI.2.2.1 hN
def KRa (a j : Int) : Prop := KRl a j ∨ KTk a j
theorem reads_loop {k n : Nat} {M0 : MM} {tx : Int → Int} {L : Int} (hd : 43 ≤ d) (hK : KD kd N)
    (hq0 : ∀ M' a, Sh M' → Fr KRa M0 M' → LwF kd a → a ≤ N → Q (vI (plT tx L a)) M')
    (hq1 : ∀ M' cs, Sh M' → Fr KRa M0 M' → LwG kd cs → cs.length ≤ 12 → rd M' 16 4 = cs.length → CRds M' cs → (∀ i : Nat, i < cs.length → rd M' 20 ((i : Int) + 1) ≤ rd M' 16 8) → 0 ≤ rd M' 16 8 → rd M' 16 8 ≤ 400 → rd M' 20 cs.length = rd M' 16 8 → Q (vI (-1)) M') :
    ∀ (m : Nat) (M : MM) (at' pt sz : Nat) (cs : List Cls), cs.length + m = 12 → RdL M kd N at' pt sz cs → (∀ i : Nat, i ≤ N → rd M 18 i = plT tx L i) → Fr KRa M0 M → ChD kd 0 0 cs at' pt → X G Y_X7_reads d k n 28 [vA 16, vA 14, vI L, vI cs.length] [] M Q := by
  intro m
  induction m with
  | zero =>
    intro M at' pt sz cs hm hL h18 hF hch
    have hI := hL.1
    have hN := hI.2.2.2.2.2.1
    refine B_X7_reads_28 (by omega) hI.1 ⟨⟨by omega, by omega⟩, fun _ => ⟨(hI.b hK).1, (hI.b hK).2, ?_⟩, fun q => by omega⟩
    rw [hI.2.2.1, h18 at' hN]
    exact hq0 M at' hI.1 hF ⟨cs, at', pt, hch, by omega, Or.inl ⟨by omega, rfl⟩⟩ hN
  | succ m ih =>
    intro M at' pt sz cs hm hL h18 hF hch
    have hI := hL.1
    have hK4 := hK.1
    refine B_X7_reads_28 (by omega) hI.1 ⟨⟨by omega, by omega⟩, fun q => by omega, fun _ => ?_⟩
    refine T_X7_clause (by omega) hK hL (by omega) (fun M4 a p s4 F4 D4 e4 a4 => ?_) (fun M4 a p s c F4 D4 a4 L4 => ?_)
    · refine ⟨s4, ⟨by decide, by decide⟩, fun w => absurd rfl w, fun _ => ⟨by omega, by omega, ?_⟩⟩
      rw [e4, F4.2.2 18 a (by unfold KRl KRd; omega), h18 a a4]
      exact hq0 M4 a s4 (hF.tr (F4.mono (fun _ _ => Or.inl))) ⟨cs, at', pt, hch, by omega, Or.inr (Or.inl ⟨by omega, p, D4⟩)⟩ a4
    · have I4 := L4.1
      have hNa := I4.2.2.2.2.2.1
      have F04 := hF.tr (F4.mono (fun _ _ => Or.inl) : Fr KRa M M4)
      have h18' : ∀ i : Nat, i ≤ N → rd M4 18 i = plT tx L i := fun i hi => by rw [F4.2.2 18 i (by unfold KRl KRd; omega)]; exact h18 i hi
      have hlen : (cs ++ [c]).length = cs.length + 1 := by simp
      refine ⟨I4.1, ⟨by decide, by decide⟩, fun _ => ⟨(I4.b hK).1, (I4.b hK).2, by rw [I4.k]; exact hK.r hNa, fun y => ⟨fun z M10 e10 s10 => ?_, fun z => ?_⟩, fun y => ?_⟩, fun w => absurd w (by decide)⟩
      · rw [I4.k] at z
        obtain ⟨I10, F10, C10⟩ := I4.adv e10 s10 (hK.lt hNa (by rw [z]; decide))
        have g := ih M10 (a + 1) p s (cs ++ [c]) (by omega) ⟨I10, ?_, ?_, ⟨?_, ?_⟩, ?_⟩ (fun i hi => by rw [F10.2.2 18 i (by unfold KRd; omega)]; exact h18' i hi) (F04.tr (F10.mono (fun _ _ y => Or.inl (Or.inl y)))) (ChD.add cs 0 0 at' pt hch D4 z)
        · rw [show ((cs ++ [c]).length : Int) = (cs.length : Int) + 1 by omega] at g
          exact g
        · rw [e10, rd_wr, if_neg (by omega)]; exact L4.2.1
        · rw [e10, rd_wr, if_neg (by omega)]; exact L4.2.2.1
        · rw [e10, rd_wr, if_neg (by omega)]; exact L4.2.2.2.1.1
        · intro i hi
          exact (L4.2.2.2.1.2 i hi).fr (b := s) (L4.2.2.2.2 i hi) (by rw [e10, rd_wr, if_neg (by omega)]) (by rw [e10, rd_wr, if_neg (by omega)]) (by rw [e10, rd_wr, if_neg (by omega)]) (fun k _ _ => C10 k)
        · intro i hi
          rw [e10, rd_wr, if_neg (by omega)]; exact L4.2.2.2.2 i hi
      · rw [I4.k] at y z
        rw [I4.2.2.1, h18' a hNa]
        exact hq0 M4 a I4.1 F04 ⟨cs, at', pt, hch, by omega, Or.inr (Or.inr ⟨by omega, p, c, D4, y, z⟩)⟩ hNa
      · rw [I4.k] at y
        have e8 := I4.2.2.2.2.1
        have := I4.2.2.2.2.2.2.2
        refine hq1 M4 (cs ++ [c]) I4.1 F04 ⟨cs, at', pt, a, p, c, hch, by omega, D4, y, rfl⟩ (by omega) L4.2.1 L4.2.2.2.1 (by rw [e8]; exact L4.2.2.2.2) (by omega) (by omega) (by rw [e8]; exact L4.2.2.1)
theorem TkC_KD {tx : Int → Int} {L : Int} {kd : Nat → Int} {N : Nat} (hL0 : 0 ≤ L) (hb : Byt tx L) (h : TkC M tx L kd N) : KD kd N := by
  obtain ⟨h1, h2, h3, h4, h5⟩ := h
  refine ⟨by omega, fun i hi => ?_, (h2 N).2 (by omega)⟩
  have hp := plT_ok (tx := tx) hL0 i
  have := knd_rng ((h2 i).1 (h3 i hi)) (hb _ hp.1 (h3 i hi))
  exact ⟨this.1, this.2.1, this.2.2.1⟩
theorem T_X7_reads {tx : Int → Int} {L : Int} (hd : 44 ≤ d) (hS : Sh M) (ht : ∀ j, rd M 14 j = tx j) (hb : Byt tx L) (hL : L ≤ 400) (hL0 : 0 ≤ L) (h20 : rd M 20 0 = 0)
    (hq0 : ∀ M' kd N a, Sh M' → Fr KRa M M' → TkN tx L kd N → LwF kd a → Q (vI (plT tx L a)) M')
    (hq1 : ∀ M' kd N cs, Sh M' → Fr KRa M M' → TkN tx L kd N → LwG kd cs → cs.length ≤ 12 → rd M' 16 4 = cs.length → CRds M' cs → (∀ i : Nat, i < cs.length → rd M' 20 ((i : Int) + 1) ≤ rd M' 16 8) → 0 ≤ rd M' 16 8 → rd M' 16 8 ≤ 400 → rd M' 20 cs.length = rd M' 16 8 → Q (vI (-1)) M') : C G Y_X7_reads d 0 0 [vA 16, vA 14, vI L] M Q := by
  refine C_X7_reads (B_X7_reads_0 (by omega) hS ?_)
  refine T_X7_split (by omega) hS ht hb hL hL0 (fun M1 kd N F1 s1 T1 => ⟨s1, fun M2 e2 s2 M3 e3 s3 M4 e4 s4 M5 e5 s5 => ?_⟩)
  have hK := TkC_KD hL0 hb T1
  obtain ⟨t1, t2, t3, t4, t5⟩ := T1
  have r5 : ∀ a j, a ≠ 16 → rd M5 a j = rd M1 a j := fun a j y => by rw [e5, rd_wr, if_neg (fun z => y z.1), e4, rd_wr, if_neg (fun z => y z.1), e3, rd_wr, if_neg (fun z => y z.1), e2, rd_wr, if_neg (fun z => y z.1)]
  have F5 : Fr KRa M M5 := by
    rw [e5, e4, e3, e2]
    have F1' : Fr KRa M M1 := F1.mono (fun _ _ => Or.inr)
    exact (((F1'.wr (Or.inl (Or.inl (Or.inr ⟨rfl, Or.inl rfl⟩)))).wr (Or.inl (Or.inl (Or.inr ⟨rfl, Or.inr (Or.inl rfl)⟩)))).wr (Or.inl (Or.inr (Or.inr (Or.inr ⟨rfl, rfl⟩))))).wr (Or.inl (Or.inl (Or.inr ⟨rfl, Or.inr (Or.inr rfl)⟩)))
  have g := reads_loop (G := G) (d := d) (k := 0) (n := 0) (M0 := M) (tx := tx) (L := L) (by omega) hK (fun M' a q1 q2 q3 _ => hq0 M' kd N a q1 q2 ⟨t1, t2, t3, t4⟩ q3) (fun M' cs q1 q2 q3 => hq1 M' kd N cs q1 q2 ⟨t1, t2, t3, t4⟩ q3) 12 M5 0 0 0 [] rfl ⟨⟨s5, fun i hi => by rw [r5 17 i (by decide)]; exact (t5 i hi).1, by rw [e5, rd_wr, if_neg (by omega), e4, rd_wr, if_neg (by omega), e3, rd_wr, if_neg (by omega), e2, rd_wr, if_pos ⟨rfl, rfl⟩]; rfl, by rw [e5, rd_wr, if_neg (by omega), e4, rd_wr, if_neg (by omega), e3, rd_wr, if_pos ⟨rfl, rfl⟩]; rfl, by rw [e5, rd_wr, if_pos ⟨rfl, rfl⟩]; rfl, Nat.zero_le _, Nat.zero_le _, Nat.le_refl _⟩, by rw [e5, rd_wr, if_neg (by omega), e4, rd_wr, if_pos ⟨rfl, rfl⟩]; rfl, by
      show rd M5 20 0 = 0
      rw [r5 20 0 (by decide), F1.2.2 20 0 (by unfold KTk; decide)]; exact h20, ⟨by rw [r5 20 0 (by decide), F1.2.2 20 0 (by unfold KTk; decide)]; exact h20, fun i hi => by simp at hi⟩, fun i hi => by simp at hi⟩ (fun i hi => by rw [r5 18 i (by decide)]; exact (t5 i hi).2) F5 ⟨rfl, rfl⟩
  exact g
end PC3
