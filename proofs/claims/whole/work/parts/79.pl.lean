/-! ===== the class's plan: what its caches hold ===== -/
def FxK (r : Int → Int) (sm : Int → LSm) (M : MM) : Prop := FxI (fixL r sm) M ∧ nrm (rd M 41) 0 14 ∧ vl (rd M 41) 0 14 = wR r sm (fixL r sm)
def PL (r : Int → Int) (sm : Int → LSm) (M : MM) : Prop :=
  Sh M ∧ CIn M r sm ∧ (rd M 32 11 = 8 ∧ rd M 32 10 = 4) ∧ tIn r sm 8 (cBs r) M 32 ∧ tB0 M 44 ∧ (0 ≤ rd M 44 10 ∧ rd M 44 10 ≤ 4) ∧ (0 ≤ rd M 44 11 ∧ rd M 44 11 ≤ 10) ∧
  (rd M 39 4 = 0 ∨ rd M 39 4 = 1) ∧ (rd M 39 7 = 0 ∨ rd M 39 7 = 1) ∧ (rd M 39 8 = 0 ∨ rd M 39 8 = 1) ∧
  (rd M 39 4 = 1 → tIn r sm (rd M 44 11) (canC r sm (rd M 44 10)) M 44 ∧ (rd M 44 10 = 3 → rd M 39 8 = 1)) ∧
  (rd M 39 7 = 1 → LSt M (allR r)) ∧ (rd M 39 8 = 1 → FxK r sm M)
def KPl (a j : Int) : Prop := a = 23 ∨ a = 24 ∨ a = 29 ∨ (a = 25 ∧ j = 6) ∨ (30 ≤ a ∧ a ≤ 50)
theorem KZ_Pl {t a j : Int} (ht : t = 32 ∨ t = 44) (h : KZ t a j) : KPl a j := by unfold KZ KTd KX at h; unfold KPl; omega
theorem FxI.eq {t : List Int} {M M' : MM} (h : FxI t M) (e4 : rd M' 30 4 = rd M 30 4) (e : ∀ j, rd M' 31 j = rd M 31 j) : FxI t M' := ⟨by rw [e4]; exact h.1, fun i i0 i1 => by rw [e]; exact h.2 i i0 i1⟩
theorem FxK.eq {r : Int → Int} {sm : Int → LSm} {M M' : MM} (h : FxK r sm M) (e4 : rd M' 30 4 = rd M 30 4) (e : ∀ j, rd M' 31 j = rd M 31 j) (e1 : rd M' 41 = rd M 41) : FxK r sm M' := ⟨h.1.eq e4 e, by rw [e1]; exact h.2.1, by rw [e1]; exact h.2.2⟩
theorem LSt.eq {M M' : MM} {ps : List (List Int)} (h : LSt M ps) (e6 : rd M' 39 6 = rd M 39 6) (e : ∀ j, rd M' 40 j = rd M 40 j) : LSt M' ps := ⟨by rw [e6]; exact h.1, fun i hi => by rw [e]; exact h.2 i hi⟩
theorem tB0.eq {M M' : MM} {t : Int} (h : tB0 M t) (e2 : rd M' (t + 2) = rd M (t + 2)) (e9 : rd M' t 9 = rd M t 9) : tB0 M' t := by unfold tB0 at h ⊢; rw [e2, e9]; exact h
section PN
variable {G : GG} {d : Nat} {M : MM} {Q : PV → MM → Prop} {r : Int → Int} {sm : Int → LSm}
/-- what the table of AHEAD alone changes -/
theorem PL.ahead {M' : MM} (h : PL r sm M) (f : Fr (KZ 32) M M') (hs : tSt r sm 32 8 4 (cBs r) TopM M') : PL r sm M' := by
  obtain ⟨h1, h2, h3, h4, h5, h6, h7, h8, h9, h10, h11, h12, h13⟩ := h
  have e : ∀ a j : Int, (a = 30 ∨ a = 31 ∨ a = 32 ∨ (39 ≤ a ∧ a ≤ 94)) → rd M' a j = rd M a j := fun a j w => f.2.2 _ _ (by unfold KZ KTd KX; omega)
  have e45 : rd M' 45 = rd M 45 := funext fun j => e _ _ (by decide)
  have e46 : rd M' 46 = rd M 46 := funext fun j => e _ _ (by decide)
  refine ⟨hs.1, hs.2.1, ⟨by rw [e _ _ (by decide)]; exact h3.1, by rw [e _ _ (by decide)]; exact h3.2⟩, hs.2.2.2, h5.eq e46 (e _ _ (by decide)), by rw [e _ _ (by decide)]; exact h6, by rw [e _ _ (by decide)]; exact h7, by rw [e _ _ (by decide)]; exact h8, by rw [e _ _ (by decide)]; exact h9, by rw [e _ _ (by decide)]; exact h10, fun w => ?_, fun w => ?_, fun w => ?_⟩
  · rw [e _ _ (by decide)] at w
    rw [e 44 11 (by decide), e 44 10 (by decide), e 39 8 (by decide)]
    exact ⟨(h11 w).1.eq e45 e46 (e _ _ (by decide)), (h11 w).2⟩
  · rw [e _ _ (by decide)] at w
    exact (h12 w).eq (e _ _ (by decide)) (fun j => e _ _ (by decide))
  · rw [e _ _ (by decide)] at w
    exact (h13 w).eq (e _ _ (by decide)) (fun j => e _ _ (by decide)) (funext fun j => e _ _ (by decide))
theorem PL.st (h : PL r sm M) : tSt r sm 32 8 4 (cBs r) TopM M := ⟨h.1, h.2.1, ⟨h.2.2.1.1, h.2.2.1.2, trivial⟩, h.2.2.2.1⟩
/-- AHEAD settles a place -/
theorem T_ahead {p l z o : Int} (hP : PL r sm M) (hn : NS p l) (hz : RZ z o) (hd : 24 ≤ d) (h : ∀ M', PL r sm M' → Fr (KZ 32) M M' → tMk M' 32 p l z o → tMo 32 M M' → Q vU M') : C G Y_X9_settle d 0 0 [vA 32, vI p, vI l, vI z, vI o, vI (pop p)] M Q := by
  have hq := pop_le hn.1.1 hn.1.2
  refine T_settle (cx_all (G := G) (r := r) (sm := sm) (g := 8) (Or.inl ⟨rfl, rfl⟩) ⟨by decide, by decide⟩) (5 - pop p).toNat M Q d p l z o hn hz rfl (by omega) hP.st trivial (fun w => absurd w (by decide)) (fun M' s' m' => h M' (hP.ahead s'.1 s'.2.1) s'.1 m' s'.2.2.2)
theorem NS0 : NS 0 (-1) := ⟨⟨by decide, by decide⟩, ⟨by decide, by decide⟩, Or.inl ⟨rfl, rfl⟩⟩
theorem pop0 : pop 0 = 0 := by decide +kernel
theorem T_ahead0 {z o : Int} (hP : PL r sm M) (hz : RZ z o) (hd : 24 ≤ d) (h : ∀ M', PL r sm M' → Fr (KZ 32) M M' → tMk M' 32 0 (-1) z o → tMo 32 M M' → Q vU M') : C G Y_X9_settle d 0 0 [vA 32, vI 0, vI (-1), vI z, vI o, vI 0] M Q := by
  have := T_ahead (G := G) (Q := Q) hP NS0 hz hd h
  rw [pop0] at this
  exact this
/-- the root's value is copied -/
theorem T_copyRoot {t z o to g : Int} {can : CAN} (ht : t = 32 ∨ t = 44) (hS : Sh M) (hT : TBL M) (hto : to = 42 ∨ to = 43) (hI : tIn r sm g can M t) (hz : RZ z o) (hm : tMk M t 0 (-1) z o) (hd : 3 ≤ d) (h : ∀ M', Ch M M' to 0 14 → Sh M' → nrm (rd M' to) 0 14 → vl (rd M' to) 0 14 = (VV r sm g can 0 (-1) z o).1 → Q vU M') : C G Y_X9_copyRoot d 0 0 [vA t, vI z, vI o, vA to] M Q := by
  have sg := hI.2.1 0 (-1) z o NS0 hz hm
  have eL : (limF (pop 0).toNat).toNat = 14 := by decide +kernel
  have eL' : limF (pop 0).toNat = 14 := by decide +kernel
  have hs := seg_in (p := 0) (l := -1) hz.1 hz.2
  have hnd := node_ok NS0
  have A : Ar M to 0 14 := by
    rcases hto with rfl | rfl
    · exact hS.Ar 42 14 rfl ⟨by decide, by decide, by decide, by decide⟩ (by decide)
    · exact hS.Ar 43 14 rfl ⟨by decide, by decide, by decide, by decide⟩ (by decide)
  unfold tSg at sg
  rw [eL] at sg
  rw [eL'] at hs hnd
  refine C_X9_copyRoot (B_X9_copyRoot_0 (by omega) ht hS ?_)
  refine T_X9_limbAt ht hS hT NS0 (by omega) ?_
  show Sh M ∧ _
  refine ⟨hS, sOt_1 ht hS, ⟨A.1, A.2.1, A.2.2.1⟩, by omega, by rw [sLt_1 ht hS]; omega, by have := A.2.2.2.2.1; omega, fun M3 e3 => ?_⟩
  have ch : Ch M M3 to 0 14 := by
    rw [e3]
    refine ⟨rfl, fun _ => rfl, fun b j w => ?_⟩
    rw [rd_cp, if_neg (by omega)]
  have r3 : ∀ i : Int, 0 ≤ i → i < 14 → rd M3 to (0 + i) = rd M (t + 1) (seg 0 (-1) z o + i) := fun i i0 i1 => by
    rw [e3, rd_cp, if_pos ⟨rfl, by omega, by omega⟩]; congr 1; omega
  exact h M3 ch (hS.ch ch (by rw [A.2.2.1]; decide)) (fun i i0 i1 => by rw [r3 i i0 i1]; exact sg.1 i i0 i1) (by rw [vl_congr r3]; exact sg.2.1)
/-- cells of the plan's own rows -/
theorem PL.ch {M' : MM} {to : Int} (h : PL r sm M) (c : Ch M M' to 0 14) (hto : to = 42 ∨ to = 43) : PL r sm M' := by
  obtain ⟨h1, h2, h3, h4, h5, h6, h7, h8, h9, h10, h11, h12, h13⟩ := h
  have e : ∀ a j : Int, a ≠ to → rd M' a j = rd M a j := fun a j w => c.2.2 _ _ (fun y => w y.1)
  have hS' : Sh M' := h1.ch c (by
    rcases hto with rfl | rfl
    · rw [(sO_42 h1).2.2]; decide
    · rw [(sO_43 h1).2.2]; decide)
  have f : Fr (fun a _ => a = to) M M' := Fr.ch c (fun j _ _ => rfl)
  have hC : CIn M' r sm := h2.fr f (fun a j w => by omega)
  have e1 : ∀ a : Int, a ≠ to → rd M' a = rd M a := fun a w => funext fun j => e a j w
  refine ⟨hS', hC, ⟨by rw [e _ _ (by omega)]; exact h3.1, by rw [e _ _ (by omega)]; exact h3.2⟩, h4.eq (e1 _ (by omega)) (e1 _ (by omega)) (e _ _ (by omega)), h5.eq (e1 _ (by omega)) (e _ _ (by omega)), by rw [e _ _ (by omega)]; exact h6, by rw [e _ _ (by omega)]; exact h7, by rw [e _ _ (by omega)]; exact h8, by rw [e _ _ (by omega)]; exact h9, by rw [e _ _ (by omega)]; exact h10, fun w => ?_, fun w => ?_, fun w => ?_⟩
  · rw [e _ _ (by omega)] at w
    rw [e 44 11 (by omega), e 44 10 (by omega), e 39 8 (by omega)]
    exact ⟨(h11 w).1.eq (e1 _ (by omega)) (e1 _ (by omega)) (e _ _ (by omega)), (h11 w).2⟩
  · rw [e _ _ (by omega)] at w
    exact (h12 w).eq (e _ _ (by omega)) (fun j => e _ _ (by omega))
  · rw [e _ _ (by omega)] at w
    exact (h13 w).eq (e _ _ (by omega)) (fun j => e _ _ (by omega)) (e1 _ (by omega))
end PN
