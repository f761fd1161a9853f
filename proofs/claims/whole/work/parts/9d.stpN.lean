/-! ===== more steps of the model's reading ===== -/
section SQ
variable {G : GG} {d : Nat} {M M' M1 M2 : MM} {Q : PV → MM → Prop} {tx : Int → Int} {L : Int} {kd : Nat → Int} {N i pt n br : Nat} {π ρ : Pil} {tst : Int}
theorem T_push1 {o t : Int} (hd : 1 ≤ d) (hX : CtX tx L kd N) (h : MSt M tx L kd N i pt n π br) (b1' : n + cntP π + 1 ≤ i) (b2' : π.length + 1 ≤ i) (h1 : 20 ≤ o) (h2 : o ≤ 31) (h3 : (o = 28 ∨ o = 29) → 0 ≤ t ∧ t < 400) (hq : ∀ M', MSt M' tx L kd N i pt n ((o, t) :: π) br → Fr KMp M M' → SmC M M' → Q vU M') : C G Y_X12_push d 0 0 [vA 67, vI o, vI t] M Q := by
  obtain ⟨⟨a1, a2, a3, a4⟩, ⟨b1, b2, b3, b4⟩, ⟨c1, c2⟩, e1, ⟨f1, f2, f3, f4, f5⟩⟩ := h
  have hn := hX.n400
  refine T_X12_push (by omega) a1 b3 (by omega) c1 (fun M5 s5 F5 g1 g2 => ?_)
  have r : ∀ j, j ≠ 23 → rd M5 67 j = rd M 67 j := fun j q => F5.2.2 67 j (by unfold KPu; omega)
  have r2 : ∀ a j, a ≠ 67 → a ≠ 76 → a ≠ 77 → rd M5 a j = rd M a j := fun a j q q2 q3 => F5.2.2 a j (by unfold KPu; omega)
  refine hq M5 ⟨⟨s5, ⟨fun j => by rw [r2 72 j (by decide) (by decide) (by decide)]; exact a2.1 j, by rw [r 8 (by decide)]; exact a2.2.1, by rw [r 13 (by decide)]; exact a2.2.2⟩, a3.fr (r 9 (by decide)) (r 10 (by decide)) (r 11 (by decide)) (r 12 (by decide)), by rw [r 14 (by decide)]; exact a4⟩, ⟨by rw [r 20 (by decide)]; exact b1, by rw [r 17 (by decide)]; exact b2, g1, by rw [r 24 (by decide)]; exact b4⟩, ⟨g2, c2.cons h1 h2 h3⟩, fun k k0 k1 => by rw [r2 78 k (by decide) (by decide) (by decide)]; exact e1 k k0 k1, ⟨f1, f2, f3, ?_, ?_⟩⟩ (F5.mono (fun _ _ => KPu_p)) (SmC.fp F5)
  · rw [cntP]; split <;> omega
  · simp only [List.length_cons]; omega
theorem MSt.f24 {b : Nat} (h : MSt M tx L kd N i pt n π br) (e : M1 = wr M 67 24 b) (hS : Sh M1) (hb : b ≤ 8) : MSt M1 tx L kd N i pt n π b ∧ Fr KMp M M1 ∧ SmC M M1 := by
  obtain ⟨⟨a1, a2, a3, a4⟩, ⟨b1, b2, b3, b4⟩, ⟨c1, c2⟩, e1, ⟨f1, f2, f3, f4, f5⟩⟩ := h
  have r : ∀ j, j ≠ 24 → rd M1 67 j = rd M 67 j := fun j q => by rw [e, rd_wr, if_neg (fun z => q z.2)]
  have r2 : ∀ a j, a ≠ 67 → rd M1 a j = rd M a j := fun a j q => by rw [e, rd_wr, if_neg (fun z => q z.1)]
  refine ⟨⟨⟨hS, ⟨fun j => by rw [r2 72 j (by decide)]; exact a2.1 j, by rw [r 8 (by decide)]; exact a2.2.1, by rw [r 13 (by decide)]; exact a2.2.2⟩, a3.fr (r 9 (by decide)) (r 10 (by decide)) (r 11 (by decide)) (r 12 (by decide)), by rw [r 14 (by decide)]; exact a4⟩, ⟨by rw [r 20 (by decide)]; exact b1, by rw [r 17 (by decide)]; exact b2, by rw [r 23 (by decide)]; exact b3, by rw [e, rd_wr, if_pos ⟨rfl, rfl⟩]⟩, ⟨PlM.fr π c1 (fun j _ _ => ⟨r2 76 j (by decide), r2 77 j (by decide)⟩), c2⟩, fun k k0 k1 => by rw [r2 78 k (by decide)]; exact e1 k k0 k1, ⟨f1, f2, hb, f4, f5⟩⟩, ?_, funext fun k => r2 74 k (by decide), funext fun k => r2 75 k (by decide)⟩
  rw [e]; exact Fr.rf.wr (by unfold KMp; omega)
theorem MSt.pop {e0 : Int × Int} (h : MSt M tx L kd N i pt n (e0 :: π) (br + 1)) (e1 : M1 = wr M 67 23 (rd M 67 23 - 1)) (s1 : Sh M1) (e2 : M2 = wr M1 67 24 (rd M1 67 24 - 1)) (s2 : Sh M2) : MSt M2 tx L kd N i pt n π br ∧ Fr KMp M M2 ∧ SmC M M2 := by
  have h' : MSt M1 tx L kd N i pt n π (br + 1) := by
    obtain ⟨⟨a1, a2, a3, a4⟩, ⟨b1, b2, b3, b4⟩, ⟨c1, c2⟩, g1, ⟨f1, f2, f3, f4, f5⟩⟩ := h
    have r : ∀ j, j ≠ 23 → rd M1 67 j = rd M 67 j := fun j q => by rw [e1, rd_wr, if_neg (fun z => q z.2)]
    have r2 : ∀ a j, a ≠ 67 → rd M1 a j = rd M a j := fun a j q => by rw [e1, rd_wr, if_neg (fun z => q z.1)]
    rw [cntP] at f4
    simp only [List.length_cons] at f5 b3
    exact ⟨⟨s1, ⟨fun j => by rw [r2 72 j (by decide)]; exact a2.1 j, by rw [r 8 (by decide)]; exact a2.2.1, by rw [r 13 (by decide)]; exact a2.2.2⟩, a3.fr (r 9 (by decide)) (r 10 (by decide)) (r 11 (by decide)) (r 12 (by decide)), by rw [r 14 (by decide)]; exact a4⟩, ⟨by rw [r 20 (by decide)]; exact b1, by rw [r 17 (by decide)]; exact b2, by rw [e1, rd_wr, if_pos ⟨rfl, rfl⟩, b3]; omega, by rw [r 24 (by decide)]; exact b4⟩, ⟨PlM.fr π c1.2.2 (fun j _ _ => ⟨r2 76 j (by decide), r2 77 j (by decide)⟩), fun x hx => c2 x (List.mem_cons_of_mem _ hx)⟩, fun k k0 k1 => by rw [r2 78 k (by decide)]; exact g1 k k0 k1, ⟨f1, f2, f3, by omega, by omega⟩⟩
  have hb := h.2.2.2.2.2.2.1
  have e2' : M2 = wr M1 67 24 (br : Nat) := by rw [e2, h'.2.1.2.2.2, show ((br + 1 : Nat) : Int) - 1 = (br : Int) by omega]
  have F1 : Fr KMp M M1 := by rw [e1]; exact Fr.rf.wr (by unfold KMp; omega)
  have C1 : SmC M M1 := ⟨funext fun k => by rw [e1, rd_wr, if_neg (by omega)], funext fun k => by rw [e1, rd_wr, if_neg (by omega)]⟩
  obtain ⟨q1, q2, q3⟩ := h'.f24 (b := br) e2' s2 (by omega)
  exact ⟨q1, F1.tr q2, C1.tr q3⟩
end SQ
