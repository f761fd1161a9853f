/-! ===== law: the model ===== -/
/-- what the clauses mean -/
def lsm (cs : List Cls) : LSm := ((cs.length : Int), fun c => (cs.getD c.toNat (0, dV0, none)).1, fun c => (cs.getD c.toNat (0, dV0, none)).2.1, fun c => match (cs.getD c.toNat (0, dV0, none)).2.2 with
  | some w => w
  | none => fun _ => some 1)
def MCls (M : MM) (cs : List Cls) (n : Nat) : Prop := ∃ e : Nat → Nat, e 0 = 0 ∧ e cs.length = n ∧ ∀ k : Nat, k < cs.length → e (k + 1) ≤ n ∧ MCl M (8 * (k : Int)) (e k) (e (k + 1)) (cs.getD k (0, dV0, none))
section LM
variable {G : GG} {d : Nat} {M M' M0 : MM} {Q : PV → MM → Prop} {tx : Int → Int} {L : Int} {kd : Nat → Int} {N : Nat} {c : Cls}
theorem MCl.cg {b n n' B : Int} (h : MCl M b n n' c) (hB : n' ≤ B) (h73 : ∀ j, b ≤ j → j < b + 8 → rd M' 73 j = rd M 73 j) (hc : ∀ k : Int, k < B → rd M' 74 k = rd M 74 k ∧ rd M' 75 k = rd M 75 k) : MCl M' b n n' c := by
  obtain ⟨a1, a2, a3, a4, a5, a6, a7, a8, a9⟩ := h
  unfold MCl
  rw [h73 b (by omega) (by omega), h73 (b + 3) (by omega) (by omega), h73 (b + 4) (by omega) (by omega), h73 (b + 5) (by omega) (by omega), h73 (b + 6) (by omega) (by omega)]
  refine ⟨a1, a2, a3, a4, a5, a6, a7, a8.cg (fun k k0 k1 => hc k (by omega)), ?_⟩
  rcases a9 with w | ⟨w, v, w2, w3⟩
  · exact Or.inl w
  · exact Or.inr ⟨w, v, w2, w3.cg (fun k k0 k1 => hc k (by omega))⟩
theorem MCls.cg {cs : List Cls} {n : Nat} (h : MCls M cs n) (h73 : ∀ j : Int, j < 8 * (cs.length : Int) → rd M' 73 j = rd M 73 j) (hc : CdS n M M') : MCls M' cs n := by
  obtain ⟨e, e0, e1, h⟩ := h
  exact ⟨e, e0, e1, fun k hk => ⟨(h k hk).1, (h k hk).2.cg (B := n) (by have := (h k hk).1; omega) (fun j j0 j1 => h73 j (by omega)) hc⟩⟩
theorem MCls.add {cs : List Cls} {n n' : Nat} (h : MCls M cs n) (hn : n < n') (hC : MCl M (8 * (cs.length : Int)) n n' c) : MCls M (cs ++ [c]) n' := by
  obtain ⟨e, e0, e1, h⟩ := h
  obtain ⟨E, hE1, hE2⟩ : ∃ E : Nat → Nat, (∀ k, k ≤ cs.length → E k = e k) ∧ E (cs.length + 1) = n' := ⟨fun k => if k ≤ cs.length then e k else n', fun k hk => if_pos hk, if_neg (by omega)⟩
  refine ⟨E, by rw [hE1 0 (Nat.zero_le _)]; exact e0, by rw [show (cs ++ [c]).length = cs.length + 1 by simp]; exact hE2, fun k hk => ?_⟩
  simp only [List.length_append, List.length_cons, List.length_nil] at hk
  by_cases w : k = cs.length
  · subst w
    have eg : (cs ++ [c]).getD cs.length (0, dV0, none) = c := by simp
    rw [eg, hE1 _ (Nat.le_refl _), hE2, e1]
    exact ⟨Nat.le_refl _, hC⟩
  · have hk' : k < cs.length := by omega
    have eg : (cs ++ [c]).getD k (0, dV0, none) = cs.getD k (0, dV0, none) := by
      rw [List.getD_eq_getElem?_getD, List.getD_eq_getElem?_getD, List.getElem?_append_left hk']
    rw [eg, hE1 k (by omega), hE1 (k + 1) (by omega)]
    exact ⟨by have := (h k hk').1; omega, (h k hk').2⟩
/-- readClause, and the law's loop behind it -/
def RCl (G : GG) (d : Nat) (Q : PV → MM → Prop) (M : MM) : Prop := C G Y_X12_readClause (d - 1) 0 0 [vA 67] M (rU (fun M7 => Sh M7 ∧ X G Y_X12_law d 0 0 51 [vA 67, vU, vU] [] M7 Q))
theorem law51_bad {k n : Nat} (hS : Sh M) (hb : rd M 67 14 = 1) (h : X G Y_X12_law d k n 97 [vA 67, vU, vU] [] M Q) : X G Y_X12_law d k n 51 [vA 67, vU, vU] [] M Q := by
  have i14 : inR (rd M 67 14) := by rw [hb]; exact ⟨by decide, by decide⟩
  refine x_aload_n (dA D_X12_law 29 rfl) rfl ?_
  refine x_get (v := vI (rd M 67 14)) (dA D_X12_law 30 rfl) fw_RX12_181 (sO_67 hS) rfl ?_
  refine x_if_neP (tgt := 78) (dA D_X12_law 31 rfl) (by decide) i14 ⟨fun _ => ?_, fun w => absurd (hb.symm.trans w) (by decide)⟩
  refine x_aload_n (dA D_X12_law 41 rfl) rfl ?_
  refine x_get (v := vI (rd M 67 14)) (dA D_X12_law 42 rfl) fw_RX12_181 (sO_67 hS) rfl ?_
  exact x_if_neP (tgt := 97) (dA D_X12_law 43 rfl) (by decide) i14 ⟨fun _ => h, fun w => absurd (hb.symm.trans w) (by decide)⟩
theorem lawM_go (hd : 20 ≤ d) (hX : CtX tx L kd N) {a p : Nat} : ∀ (cs : List Cls) (i pt n : Nat) (done : List Cls) (M : MM), ChD kd i pt cs a p → MPr M tx L kd N i pt n → rd M 67 15 = done.length → done.length + cs.length ≤ 12 → MCls M done n → Fr KCl M0 M → (∀ M' n', MPr M' tx L kd N a p n' → rd M' 67 15 = (done ++ cs).length → MCls M' (done ++ cs) n' → Fr KCl M0 M' → RCl G d Q M') → RCl G d Q M
  | [], i, pt, n, done, M, hch, hP, h15, hl, hm, hf, h => by
    obtain ⟨h1, h2⟩ := hch
    subst h1 h2
    exact h M n hP (by rw [List.append_nil]; exact h15) (by rw [List.append_nil]; exact hm) hf
  | c :: cs, i, pt, n, done, M, hch, hP, h15, hl, hm, hf, h => by
    obtain ⟨a1, p1, hcl, hk, hrest⟩ := hch
    simp only [List.length_cons] at hl
    unfold RCl
    refine T_clauseY (by omega) hX hP h15 (by omega) hcl (fun M7 n' S7 F7 D7 J7 K7 l7 C7 => ⟨S7.1.1, ?_⟩)
    have sg := (S7.sg (c := 59) (by decide) (by decide)).mpr hk
    have hi : a1 < N := hX.lt S7.2.2.2.1 (by rw [hk]; decide)
    refine B_X12_law_51 (by omega) S7.1.1 ⟨by rw [S7.1.2.2.2]; exact ⟨by decide, by decide⟩, fun w => absurd S7.1.2.2.2 w, fun _ => ⟨S7.w.1, S7.w.2, fun w => absurd sg w, fun _ => ?_⟩⟩
    refine T_go (by omega) hX S7.1.1 S7.1.2.1 S7.1.2.2.1 hi (fun M23 s23 F23 A23 => ⟨s23, ?_⟩)
    have S23 := S7.adv s23 F23 A23 hi
    have m7 : MCls M7 (done ++ [c]) n' := (hm.cg J7 D7).add l7 C7
    have m23 : MCls M23 (done ++ [c]) n' := m7.cg (fun j _ => F23.2.2 73 j (by unfold KTm; omega)) (fun k _ => ⟨F23.2.2 74 k (by unfold KTm; omega), F23.2.2 75 k (by unfold KTm; omega)⟩)
    have hlen : ((done ++ [c]).length : Int) = (done.length : Int) + 1 := by simp
    refine lawM_go hd hX cs (a1 + 1) p1 n' (done ++ [c]) M23 hrest S23 (by rw [F23.2.2 67 15 (by unfold KTm; omega), hlen]; exact K7) (by simp only [List.length_append, List.length_cons, List.length_nil]; omega) m23 ((hf.tr F7).tr (F23.mono (fun a j z => by unfold KTm at z; unfold KCl KMp; omega))) (fun M' n'' x1 x2 x3 x4 => h M' n'' x1 ?_ ?_ x4)
    · rw [List.append_assoc] at x2; exact x2
    · rw [List.append_assoc] at x3; exact x3
/-- the law is good: its text is at the end -/
theorem lawM_Y (hd : 20 ≤ d) (hX : CtX tx L kd N) {cs' : List Cls} (hG : LwG kd cs') (hP : MPr M tx L kd N 0 0 0) (h15 : rd M 67 15 = 0) (h : ∀ (M' : MM) (n : Nat), Sh M' → rd M' 67 14 = 0 → TpM M' tx L → rd M' 67 15 = cs'.length → cs'.length ≤ 12 → rd M' 67 17 = n → n ≤ 400 → MCls M' cs' n → Fr KCl M M' → X G Y_X12_law d 0 0 97 [vA 67, vU, vU] [] M' Q) : RCl G d Q M := by
  obtain ⟨cs, at', pt, a, p, c, hch, hl, hcl, hk, e⟩ := hG
  refine lawM_go (M0 := M) hd hX cs 0 0 0 [] M hch hP h15 (by simp; omega) ⟨fun _ => 0, rfl, rfl, fun k hk => absurd hk (Nat.not_lt_zero _)⟩ Fr.rf (fun M' n' P1 x15 m1 f1 => ?_)
  rw [List.nil_append] at x15 m1
  unfold RCl
  refine T_clauseY (by omega) hX P1 x15 hl hcl (fun M7 n2 S7 F7 D7 J7 K7 l7 C7 => ⟨S7.1.1, ?_⟩)
  have m7 : MCls M7 cs' n2 := by rw [e]; exact (m1.cg J7 D7).add l7 C7
  have hlen : (cs'.length : Int) = (cs.length : Int) + 1 := by rw [e]; simp
  have n400 : n2 ≤ 400 := by have := S7.2.2.2.2.2; have := S7.2.2.2.1; have := hX.n400; omega
  have fin := h M7 n2 S7.1.1 S7.1.2.2.2 S7.1.2.1 (by rw [hlen]; exact K7) (by omega) S7.2.1.2 n400 m7 (f1.tr F7)
  have so : rd M7 67 11 = 0 := by
    rcases S7.1.2.2.1.2.2.1 with w | w | w | w
    · exact w.1
    · obtain ⟨-, w⟩ := w
      rcases w with ⟨q, q0, q1, q2, -⟩ | ⟨q, -⟩ <;> omega
    · obtain ⟨-, w⟩ := w
      rcases w with ⟨q0, q1, q2⟩ | ⟨q0, q1⟩ <;> omega
    · omega
  refine B_X12_law_51 (by omega) S7.1.1 ⟨by rw [S7.1.2.2.2]; exact ⟨by decide, by decide⟩, fun w => absurd S7.1.2.2.2 w, fun _ => ⟨S7.w.1, S7.w.2, fun w => ⟨fun _ => fin, fun z => absurd (Or.inr so) z⟩, fun w => absurd (so.symm.trans w.1) (by decide)⟩⟩
/-- the law has a fault -/
theorem lawM_N (hd : 20 ≤ d) (hX : CtX tx L kd N) {a : Nat} (hG : LwF kd a) (hP : MPr M tx L kd N 0 0 0) (h15 : rd M 67 15 = 0) (h : ∀ M', FPr M' tx L a → Fr KCl M M' → X G Y_X12_law d 0 0 97 [vA 67, vU, vU] [] M' Q) : RCl G d Q M := by
  obtain ⟨cs, at', pt, hch, hl, hF⟩ := hG
  refine lawM_go (M0 := M) hd hX cs 0 0 0 [] M hch hP h15 (by simp; omega) ⟨fun _ => 0, rfl, rfl, fun k hk => absurd hk (Nat.not_lt_zero _)⟩ Fr.rf (fun M' n' P1 x15 m1 f1 => ?_)
  rw [List.nil_append] at x15 m1
  unfold RCl
  rcases hF with ⟨e12, e⟩ | ⟨l12, p, hcl⟩ | ⟨l12, p, c, hcl, k1, k2⟩
  · subst e
    exact T_headN (by omega) hX P1 x15 hl (Or.inr e12) (fun M7 F7 f7 => ⟨F7.1, law51_bad F7.1 F7.2.1 (h M7 F7 (f1.tr (f7.mono (fun _ _ => Or.inl))))⟩)
  · exact T_clauseN (by omega) hX P1 x15 l12 hcl (fun M7 F7 f7 => ⟨F7.1, law51_bad F7.1 F7.2.1 (h M7 F7 (f1.tr f7))⟩)
  · refine T_clauseY (by omega) hX P1 x15 l12 hcl (fun M7 n2 S7 F7 D7 J7 K7 l7 C7 => ⟨S7.1.1, ?_⟩)
    have so : rd M7 67 11 ≠ 0 := fun w => by
      rcases S7.1.2.2.1.2.2.1 with z | z | z | z
      · exact k1 z.2
      · exact absurd (w.symm.trans z.1) (by decide)
      · exact absurd (w.symm.trans z.1) (by decide)
      · exact absurd (w.symm.trans z.1) (by decide)
    have sg : ¬ (rd M7 67 11 = 3 ∧ rd M7 67 12 = 59) := fun w => k2 ((S7.sg (c := 59) (by decide) (by decide)).mp w)
    refine B_X12_law_51 (by omega) S7.1.1 ⟨by rw [S7.1.2.2.2]; exact ⟨by decide, by decide⟩, fun w => absurd S7.1.2.2.2 w, fun _ => ⟨S7.w.1, S7.w.2, fun _ => ⟨fun w => absurd w (fun z => z.elim (fun y => y S7.1.2.2.2) so), fun _ => ?_⟩, fun w => absurd w sg⟩⟩
    exact T_mustPN (by omega) hX S7 (fun M8 F8 f8 => ⟨F8.1, h M8 F8 ((f1.tr F7).tr (f8.mono (fun _ _ => Or.inl)))⟩)
end LM
