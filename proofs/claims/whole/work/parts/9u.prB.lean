/-! ===== pairs of calls that change the row ===== -/
section PB0
variable {G : GG} {d : Nat} {M M1 : MM} {Q : PV → MM → Prop} {r : Int → Int} {sm : Int → LSm} {s s' tx : Int → Int} {L : List (Int × Int × Int)} {ri : Int → Int → Int} {si : Int → Int → LSm} {q : Int}
/-- the house has changed; the plan hears of it -/
theorem CI_lawsC {r' : Int → Int} {K : Int → Int → Prop} (hC : CI q r sm s tx L ri si M) (f : Fr K M M1) (hK : ∀ a j, K a j → 1 ≤ a ∧ a ≤ 12 ∧ a ≠ 9) (hO : COK M1 r' sm) (hS : Sh M1) (hq : 0 ≤ q ∧ q ≤ 1000) (hd : 3 ≤ d) (h : ∀ M', CI (q + 1) r' sm s tx L ri si M' → Fr (fun a _ => a < 67) M M' → Q vU M') : C G Y_X6_lawsChanged d 0 0 [vA 39] M1 Q := by
  have e : ∀ a j, 13 ≤ a → rd M1 a j = rd M a j := fun a j w => f.2.2 a j (fun z => by have := hK a j z; omega)
  have h9 := hC.2.2.1
  refine T_X6_lawsChanged (hC.1.pw.fr f (fun a j z => by have := hK a j z; omega) hS) hO (by rw [e 32 9 (by decide)]; omega) hd (fun M' hP' f' a9 => ?_)
  have ff : Fr (fun a j => K a j ∨ KV a j) M M' := (f.mono (fun _ _ => Or.inl)).tr (f'.mono (fun _ _ => Or.inr))
  refine h M' (hC.to hP' ff (fun a j z => ?_) ⟨by rw [a9, e 32 9 (by decide)]; omega, by rw [f'.2.2 44 9 (by unfold KV; omega), e 44 9 (by decide)]; omega⟩) (ff.mono (fun a j z => ?_))
  · rcases z with z | z
    · have := hK a j z; omega
    · unfold KV at z; omega
  · rcases z with z | z
    · have := hK a j z; omega
    · unfold KV at z; omega
theorem CI_valsC {r' : Int → Int} {K : Int → Int → Prop} (hC : CI q r sm s tx L ri si M) (f : Fr K M M1) (hK : ∀ a j, K a j → 1 ≤ a ∧ a ≤ 12 ∧ a ≠ 9) (hO : COK M1 r' sm) (hA : AgT r r' sm sm) (hS : Sh M1) (hq : 0 ≤ q ∧ q ≤ 1000) (hd : 3 ≤ d) (h : ∀ M', CI (q + 1) r' sm s tx L ri si M' → Fr (fun a _ => a < 67) M M' → Q vU M') : C G Y_X6_valuesChanged d 0 0 [vA 39] M1 Q := by
  have e : ∀ a j, 13 ≤ a → rd M1 a j = rd M a j := fun a j w => f.2.2 a j (fun z => by have := hK a j z; omega)
  have h9 := hC.2.2.1
  refine T_X6_valuesChanged (hC.1.pw.fr f (fun a j z => by have := hK a j z; omega) hS) hO (CKp_ag hC.1.2.1.1.2.1 hA (hC.1.2.1.2.2.eq (e _ _ (by decide)) (fun j => e _ _ (by decide)))) (by rw [e 32 9 (by decide)]; omega) (by omega) (fun M' hP' f' a9 => ?_)
  have ff : Fr (fun a j => K a j ∨ KV a j) M M' := (f.mono (fun _ _ => Or.inl)).tr (f'.mono (fun _ _ => Or.inr))
  refine h M' (hC.to hP' ff (fun a j z => ?_) ⟨by rw [a9, e 32 9 (by decide)]; omega, by rw [f'.2.2 44 9 (by unfold KV; omega), e 44 9 (by decide)]; omega⟩) (ff.mono (fun a j z => ?_))
  · rcases z with z | z
    · have := hK a j z; omega
    · unfold KV at z; omega
  · rcases z with z | z
    · have := hK a j z; omega
    · unfold KV at z; omega
theorem cor_K {c i k : Int} (hc : cor c i k) : 1 ≤ c ∧ c ≤ 12 ∧ c ≠ 9 := by unfold cor at hc; omega
/-- the model's end of a change -/
theorem fin_chg {k v : Int} (hC : CI q (upF r k v) sm (accS s) tx L ri si M) (hM : MI r sm s tx L ri si M) (h0 : 0 ≤ k ∧ k < 60 ∧ k ≠ 1) (hr : RS (upF r k v)) : INV q (chgM (wr M 67 0 0) k v) :=
  INV.mk' hC (hM.thr.rw h0 hr).was (((Fr.rf.wr (K := KMd) ⟨by decide, by decide⟩).wr ⟨by decide, by decide⟩).was ⟨by decide, by decide⟩) (fun a j z => z)
theorem Fr.acc {K : Int → Int → Prop} {M0 : MM} (f : Fr K M0 M) (h : K 0 7) : Fr K M0 (accM M) := f.wr h
theorem cor_sort {w i c : Int} (hv : (c = 5 ∧ w = 0) ∨ (c = 6 ∧ w = 1) ∨ (c = 7 ∧ w = 2)) (h0 : 0 ≤ i) (h2 : i < 2) : cor c i (30 + 3 * i + w) := by
  rcases hv with ⟨rfl, rfl⟩ | ⟨rfl, rfl⟩ | ⟨rfl, rfl⟩
  · exact Or.inr (Or.inr (Or.inr (Or.inr (Or.inl ⟨rfl, h0, h2, by omega⟩))))
  · exact Or.inr (Or.inr (Or.inr (Or.inr (Or.inr (Or.inl ⟨rfl, h0, h2, by omega⟩)))))
  · exact Or.inr (Or.inr (Or.inr (Or.inr (Or.inr (Or.inr (Or.inl ⟨rfl, h0, h2, by omega⟩))))))
theorem cor_put {w i c : Int} (hv : (c = 2 ∧ w = 0) ∨ (c = 3 ∧ w = 1) ∨ (c = 4 ∧ w = 2)) (h0 : 0 ≤ i) (h2 : i < 5) : cor c i (10 + 3 * i + w) := by
  rcases hv with ⟨rfl, rfl⟩ | ⟨rfl, rfl⟩ | ⟨rfl, rfl⟩
  · exact Or.inr (Or.inl ⟨rfl, h0, h2, by omega⟩)
  · exact Or.inr (Or.inr (Or.inl ⟨rfl, h0, h2, by omega⟩))
  · exact Or.inr (Or.inr (Or.inr (Or.inl ⟨rfl, h0, h2, by omega⟩)))
theorem cor_terms {i : Int} (h0 : 0 ≤ i) (h2 : i < 3) : cor 8 i (40 + i) := Or.inr (Or.inr (Or.inr (Or.inr (Or.inr (Or.inr (Or.inr (Or.inl ⟨rfl, h0, h2, rfl⟩)))))))
theorem cor_force : cor 1 10 2 := Or.inr (Or.inr (Or.inr (Or.inr (Or.inr (Or.inr (Or.inr (Or.inr (Or.inr (Or.inl ⟨rfl, rfl, rfl⟩)))))))))
theorem RS_sort {x1 x2 x3 : Int} (hV : RS r) (h1 : 0 ≤ x1 ∧ x1 < 2) (h2 : 0 ≤ x2 ∧ x2 < 3) (h3 : 0 ≤ x3) (h5 : x2 = 1 ∨ x3 ≤ 5) (h9 : x3 ≤ 9) : RS (upF r (30 + 3 * x1 + x2) x3) :=
  hV.up (by omega) (by omega) (fun t t0 t1 => ⟨by omega, by omega, by omega⟩) ⟨by omega, by omega, by omega⟩ (by omega) (by omega) ⟨by omega, by omega⟩ ⟨by omega, by omega, by omega⟩
theorem RS_put {x1 x2 x3 : Int} (hV : RS r) (h1 : 0 ≤ x1 ∧ x1 < 5) (hv : (x2 = 0 ∧ 1 ≤ x3 ∧ x3 ≤ 60) ∨ (x2 = 1 ∧ 0 ≤ x3 ∧ x3 ≤ 31) ∨ (x2 = 2 ∧ 0 ≤ x3 ∧ x3 ≤ 1)) : RS (upF r (10 + 3 * x1 + x2) x3) :=
  hV.up (by omega) (fun t t0 t1 => ⟨by omega, by omega, by omega⟩) (by omega) ⟨by omega, by omega, by omega⟩ (by omega) (by omega) ⟨by omega, by omega⟩ ⟨by omega, by omega, by omega⟩
end PB0
section PB
variable {G : GG} {d : Nat} {M : MM} {q : Int}
theorem P_terms {x1 x2 : Int} (h1 : inR x1) (h2 : inR x2) (hq : 0 ≤ q ∧ q ≤ 1000) (h : INV q M) (hd : 60 ≤ d) : PR G d 0 0 Y_X11_terms Y_X12_terms [vI x1, vI x2] q M := by
  obtain ⟨r, sm, s, tx, L, ri, si, hC, hM⟩ := h
  unfold PR
  have hV := hM.2.2.1.1
  have er := hM.2.1
  have e8 := hC.1.2.1.1.1.2.2.2.1
  have hT : ∀ v : Int, v = (if x1 ≠ 0 then (if x1 ≠ 1 then 300 else 99) else 9) → (v = 300 ∧ x1 ≠ 0 ∧ x1 ≠ 1) ∨ (v = 99 ∧ x1 = 1) ∨ (v = 9 ∧ x1 = 0) := fun v e => by
    by_cases a : x1 = 0
    · rw [if_neg (fun z => z a)] at e; omega
    · rw [if_pos a] at e
      by_cases b : x1 = 1
      · rw [if_neg (fun z => z b)] at e; omega
      · rw [if_pos b] at e; omega
  refine C_X11_terms (B_X11_terms_0 (by omega) hC.1.1 ⟨h1, fun v11 e11 => ⟨h2, by have := hT v11 e11; exact ⟨by omega, by omega⟩, fun c M28 e28 s28 => ?_, fun c => ⟨by omega, by omega, fun v31 e31 M32 e32 s32 => ?_⟩⟩⟩)
  · subst e28
    show CM G Y_X12_terms d [vA 67, vI x1, vI x2] (refM M (-1)) _
    have tv := hT _ rfl
    have g54 : X G Y_X12_terms d 0 0 54 [vA 67, vI x1, vI x2, vU] [] (wr (refM M (-1)) 67 0 0) (rI (fun v' M2 => v' = -1 ∧ INV (q + 1) M2)) := B_X12_terms_54 (by omega) (sW_67_0 s28) (fun M1 e1 s1 => by subst e1; exact ⟨rfl, fin_ref hC hM (Or.inl rfl)⟩)
    refine CM.of s28 ?_
    refine C_X12_terms (B_X12_terms_0 (by omega) s28 (fun M1 e1 s1 => ?_))
    subst e1
    refine ⟨h1, fun _ => g54, fun w => ⟨h2, ⟨by omega, by omega⟩, fun _ => g54, fun w2 => ?_⟩⟩
    rw [← e11] at w2
    omega
  · subst e32
    have hx : 0 ≤ x1 ∧ x1 < 3 ∧ 0 ≤ x2 := by omega
    have tv := hT v11 e11
    have hr : RS (upF r (40 + x1) x2) := hV.up (by omega) (by omega) (by omega) ⟨by omega, by omega, by omega⟩ (by omega) (by omega) ⟨by omega, by omega⟩ ⟨by omega, by omega, by omega⟩
    have hc : cor 8 x1 (40 + x1) := cor_terms (by omega) (by omega)
    refine CI_valsC (q := q) hC (Fr.rf.wr (K := fun a _ => a = 8) rfl) (fun a j z => by omega) (COK_wr hC.1.2.1.1 hc (by omega) hr) ⟨upF_ne (by omega), upF_ne (by omega), fun j j0 j1 => upF_ne (by omega), fun _ => rfl⟩ s32 hq (by omega) (fun M33 C33 f33 => ⟨C33.1.1, fun M34 e34 s34 => ?_⟩)
    subst e34
    show CM G Y_X12_terms d [vA 67, vI x1, vI x2] (accM M33) _
    have hM1 : MI r sm s tx L ri si (accM M33) := hM.fc (f33.acc (by decide)) (fun a j z => z) s34
    refine CM.of s34 ?_
    refine C_X12_terms (B_X12_terms_0 (by omega) s34 (fun M1 e1 s1 => ?_))
    subst e1
    refine ⟨h1, fun w => absurd ⟨by omega, by omega⟩ w, fun _ => ⟨h2, by rw [← e11]; exact ⟨by omega, by omega⟩, fun w => absurd (by rw [← e11]; omega) w, fun _ => ?_⟩⟩
    refine S_X12_change s1 (by omega) (by omega) (by omega) ⟨sChg s1, ?_, fin_chg C33.acc hM1 (by omega) hr⟩
    rw [rd_wr, if_neg (by omega), hM1.2.1, e31, e8 x1 (by omega) (by omega)]
theorem P_sort {x1 x2 x3 : Int} (h1 : inR x1) (h2 : inR x2) (h3 : inR x3) (hq : 0 ≤ q ∧ q ≤ 1000) (h : INV q M) (hd : 60 ≤ d) : PR G d 0 0 Y_X11_sort Y_X12_sort [vI x1, vI x2, vI x3] q M := by
  obtain ⟨r, sm, s, tx, L, ri, si, hC, hM⟩ := h
  unfold PR
  have hV := hM.2.2.1.1
  have er := hM.2.1
  have e3 := hC.1.2.1.1.1.2.2.1
  have hT : ∀ v : Int, v = (if x2 ≠ 1 then 5 else 9) → (v = 5 ∧ x2 ≠ 1) ∨ (v = 9 ∧ x2 = 1) := fun v e => by
    by_cases a : x2 = 1
    · rw [if_neg (fun z => z a)] at e; omega
    · rw [if_pos a] at e; omega
  have R : ((x1 < 0 ∨ 1 < x1) ∨ (x2 < 0 ∨ 2 < x2) ∨ (x3 < 0 ∨ (if x2 ≠ 1 then 5 else 9) < x3)) → CM G Y_X12_sort d [vA 67, vI x1, vI x2, vI x3] (refM M (-1)) (rI (fun v' M2 => v' = -1 ∧ INV (q + 1) M2)) := by
    intro c
    have s28 : Sh (refM M (-1)) := sRef hC.1.1
    have g54 : X G Y_X12_sort d 0 0 54 [vA 67, vI x1, vI x2, vI x3, vU] [] (wr (refM M (-1)) 67 0 0) (rI (fun v' M2 => v' = -1 ∧ INV (q + 1) M2)) := B_X12_sort_54 (by omega) (sW_67_0 s28) (fun M1 e1 s1 => by subst e1; exact ⟨rfl, fin_ref hC hM (Or.inl rfl)⟩)
    refine CM.of s28 ?_
    refine C_X12_sort (B_X12_sort_0 (by omega) s28 (fun M1 e1 s1 => ?_))
    subst e1
    have tv := hT _ rfl
    exact ⟨h1, fun _ => g54, fun w => ⟨h2, fun _ => g54, fun w2 => ⟨h3, ⟨by omega, by omega⟩, fun _ => g54, fun w3 => by omega⟩⟩⟩
  have tv := hT _ rfl
  refine C_X11_sort (B_X11_sort_0 (by omega) hC.1.1 ⟨h2, fun v6 e6 => ⟨h1, fun c M8 e8 _ => ?_, fun c => ⟨fun c2 M9 e9 _ => ?_, fun c2 => ⟨fun c3 M10 e10 _ => ?_, fun c3 => ⟨h3, fun c4 M12 e12 _ => ?_, fun c4 => ⟨?_, fun c5 v29 e29 => ?_, fun c5 M35 e35 _ => ?_⟩⟩⟩⟩⟩⟩)
  · subst e8; exact R (by omega)
  · subst e9; exact R (by omega)
  · subst e10; exact R (by omega)
  · subst e12; exact R (by omega)
  · rw [e6]; exact ⟨by omega, by omega⟩
  · rw [e6] at c5
    have hr : RS (upF r (30 + 3 * x1 + x2) x3) := RS_sort hV (by omega) (by omega) c4 (by omega) (by omega)
    have hv29 : (v29 = 5 ∧ x2 = 0) ∨ (v29 = 6 ∧ x2 = 1) ∨ (v29 = 7 ∧ x2 = 2) := by
      by_cases a : x2 = 0
      · rw [if_neg (fun z => z a)] at e29; omega
      · rw [if_pos a] at e29
        by_cases b : x2 = 1
        · rw [if_neg (fun z => z b)] at e29; omega
        · rw [if_pos b] at e29; omega
    have hc : cor v29 x1 (30 + 3 * x1 + x2) := cor_sort hv29 (by omega) (by omega)
    have hval : rd M v29 x1 = r (30 + 3 * x1 + x2) := by
      have := e3 x1 (by omega) (by omega)
      rcases hv29 with ⟨a, b⟩ | ⟨a, b⟩ | ⟨a, b⟩
      · rw [a, b, this.1, Int.add_zero]
      · rw [a, b, this.2.1]; congr 1; omega
      · rw [a, b, this.2.2]; congr 1; omega
    have hSh : ∀ v, Sh (wr M v29 x1 v) := fun v => by
      rcases hv29 with ⟨a, -⟩ | ⟨a, -⟩ | ⟨a, -⟩
      · rw [a]; exact sW_5 hC.1.1
      · rw [a]; exact sW_6 hC.1.1
      · rw [a]; exact sW_7 hC.1.1
    have hokA : okA M v29 20 x1 := by
      rcases hv29 with ⟨a, -⟩ | ⟨a, -⟩ | ⟨a, -⟩
      · rw [a]; exact sA_5 hC.1.1 (by omega) (by omega)
      · rw [a]; exact sA_6 hC.1.1 (by omega) (by omega)
      · rw [a]; exact sA_7 hC.1.1 (by omega) (by omega)
    refine ⟨hokA, fun v31 e31 M32 e32 => ?_⟩
    subst e32
    refine ⟨hSh _, CI_valsC (q := q) hC (Fr.rf.wr (K := fun a _ => a = v29) rfl) (fun a j z => by omega) (COK_wr hC.1.2.1.1 hc (by omega) hr) ⟨upF_ne (by omega), upF_ne (by omega), fun j j0 j1 => upF_ne (by omega), fun _ => rfl⟩ (hSh _) hq (by omega) (fun M33 C33 f33 => ⟨C33.1.1, fun M34 e34 s34 => ?_⟩)⟩
    subst e34
    show CM G Y_X12_sort d [vA 67, vI x1, vI x2, vI x3] (accM M33) _
    have hM1 : MI r sm s tx L ri si (accM M33) := hM.fc (f33.acc (by decide)) (fun a j z => z) s34
    refine CM.of s34 ?_
    refine C_X12_sort (B_X12_sort_0 (by omega) s34 (fun M1 e1 s1 => ?_))
    subst e1
    refine ⟨h1, fun w => absurd ⟨by omega, by omega⟩ w, fun _ => ⟨h2, fun w => absurd ⟨by omega, by omega⟩ w, fun _ => ⟨h3, ⟨by omega, by omega⟩, fun w => absurd ⟨by omega, by omega⟩ w, fun _ => ⟨by omega, by omega, fun M12 e12 s12 => ?_⟩⟩⟩⟩
    subst e12
    refine ⟨?_, fin_chg C33.acc hM1 (by omega) hr⟩
    rw [rd_wr, if_neg (by omega), hM1.2.1, e31, hval]
  · subst e35; rw [e6] at c5; exact R (by omega)
theorem P_force {x1 : Int} (h1 : inR x1) (hq : 0 ≤ q ∧ q ≤ 1000) (h : INV q M) (hd : 60 ≤ d) : PR G d 0 0 Y_X11_force Y_X12_force [vI x1] q M := by
  obtain ⟨r, sm, s, tx, L, ri, si, hC, hM⟩ := h
  unfold PR
  have hV := hM.2.2.1.1
  have r1 : 0 ≤ r 1 ∧ r 1 ≤ 6 := by obtain ⟨_, _, _, _, _, _, _, _, _, _, a, b, _⟩ := hV; exact ⟨a, b⟩
  have e9 : rd M 1 9 = r 1 := hC.1.2.1.1.1.2.2.2.2.1
  have e10 : rd M 1 10 = r 2 := hC.1.2.1.1.1.2.2.2.2.2.1
  refine C_X11_force (B_X11_force_0 (by omega) hC.1.1 ⟨h1, by rw [e9]; exact ⟨by omega, by omega⟩, fun c M13 e13 s13 => ?_, fun c v14 e14 M15 e15 s15 => ?_⟩)
  · subst e13
    rw [e9] at c
    have hM1 : MI r sm s tx L ri si (refM M (-2)) := hM.fc ((Fr.rf.wr (K := fun a _ => a < 67) (by decide)).wr (by decide)) (fun a j z => z) s13
    have w1 : rd (wr (refM M (-2)) 67 0 0) 69 1 = r 1 := by rw [rd_wr, if_neg (by decide), hM1.2.1]
    show CM G Y_X12_force d [vA 67, vI x1] (refM M (-2)) _
    refine CM.of s13 ?_
    refine C_X12_force (B_X12_force_0 (by omega) s13 (fun M1 e1 s1 => ?_))
    subst e1
    refine ⟨h1, fun w => by omega, fun w => ⟨by rw [w1]; exact ⟨by omega, by omega⟩, by rw [w1]; exact ⟨by omega, by omega⟩, fun _ M8 e8 s8 => ?_, fun w2 => by rw [w1] at w2; omega⟩⟩
    subst e8
    exact ⟨rfl, fin_ref hC hM (by decide)⟩
  · subst e15
    rw [e9] at c
    have hr : RS (upF r 2 x1) := hV.up (by omega) (by omega) (by omega) ⟨by omega, by omega, by omega⟩ (by omega) (by omega) ⟨by omega, by omega⟩ ⟨by omega, by omega, by omega⟩
    have hc : cor 1 10 2 := cor_force
    refine CI_lawsC (q := q) hC (Fr.rf.wr (K := fun a _ => a = 1) rfl) (fun a j z => by omega) (COK_wr hC.1.2.1.1 hc (by omega) hr) s15 hq (by omega) (fun M16 C16 f16 => ⟨C16.1.1, fun M17 e17 s17 => ?_⟩)
    subst e17
    have hM1 : MI r sm s tx L ri si (accM M16) := hM.fc (f16.acc (by decide)) (fun a j z => z) s17
    have w1 : rd (wr (accM M16) 67 0 0) 69 1 = r 1 := by rw [rd_wr, if_neg (by decide), hM1.2.1]
    have w2 : rd (wr (accM M16) 67 0 0) 69 2 = v14 := by rw [rd_wr, if_neg (by decide), hM1.2.1, e14, e10]
    show CM G Y_X12_force d [vA 67, vI x1] (accM M16) _
    refine CM.of s17 ?_
    refine C_X12_force (B_X12_force_0 (by omega) s17 (fun M1 e1 s1 => ?_))
    subst e1
    refine ⟨h1, fun w => ⟨by decide, by decide, fun M5 e5 s5 => ?_⟩, fun w => ⟨by rw [w1]; exact ⟨by omega, by omega⟩, by rw [w1]; exact ⟨by omega, by omega⟩, fun w2 => absurd (by rw [w1]; omega) w2, fun _ => ⟨by decide, by decide, fun M11 e11 s11 => ?_⟩⟩⟩
    · subst e5; exact ⟨w2, fin_chg C16.acc hM1 (by decide) hr⟩
    · subst e11; exact ⟨w2, fin_chg C16.acc hM1 (by decide) hr⟩
theorem P_put {x1 x2 x3 : Int} (h1 : inR x1) (h2 : inR x2) (h3 : inR x3) (hq : 0 ≤ q ∧ q ≤ 1000) (h : INV q M) (hd : 60 ≤ d) : PR G d 0 0 Y_X11_put Y_X12_put [vI x1, vI x2, vI x3] q M := by
  obtain ⟨r, sm, s, tx, L, ri, si, hC, hM⟩ := h
  unfold PR
  have hV := hM.2.2.1.1
  have hV0 := hV.1
  have hV5 := hV.2.1
  have e0 : rd M 1 0 = r 0 := hC.1.2.1.1.1.1
  have e2 := hC.1.2.1.1.1.2.1
  have R1 : ¬ fitM x1 x2 x3 → CM G Y_X12_put d [vA 67, vI x1, vI x2, vI x3] (refM M (-1)) (rI (fun v' M2 => v' = -1 ∧ INV (q + 1) M2)) := by
    intro c
    have s28 : Sh (refM M (-1)) := sRef hC.1.1
    refine CM.of s28 ?_
    refine C_X12_put (B_X12_put_0 (by omega) s28 (fun M1 e1 s1 => ?_))
    subst e1
    refine ⟨h1, h2, h3, fun w => absurd w c, fun _ M11 e11 s11 => ?_⟩
    subst e11
    exact ⟨rfl, fin_ref hC hM (Or.inl rfl)⟩
  have g27 : fitM x1 x2 x3 → X G Y_X11_put d 0 0 27 [vA 0, vI x1, vI x2, vI x3, vU, vU] [] M (rI (fun v M1 => CM G Y_X12_put d [vA 67, vI x1, vI x2, vI x3] M1 (rI (fun v' M2 => v' = v ∧ INV (q + 1) M2)))) := by
    intro hf
    refine B_X11_put_27 (by omega) hC.1.1 ⟨h1, by rw [e0]; exact ⟨by omega, by omega⟩, fun c => ⟨h2, fun v19 e19 => ?_⟩, fun c M25 e25 s25 => ?_⟩
    · rw [e0] at c
      have hv : (v19 = 2 ∧ x2 = 0 ∧ 1 ≤ x3 ∧ x3 ≤ 60) ∨ (v19 = 3 ∧ x2 = 1 ∧ 0 ≤ x3 ∧ x3 ≤ 31) ∨ (v19 = 4 ∧ x2 = 2 ∧ 0 ≤ x3 ∧ x3 ≤ 1) := by
        by_cases a : x2 = 0
        · rw [if_neg (fun z => z a)] at e19; omega
        · rw [if_pos a] at e19
          by_cases b : x2 = 1
          · rw [if_neg (fun z => z b)] at e19; omega
          · rw [if_pos b] at e19; omega
      have hr : RS (upF r (10 + 3 * x1 + x2) x3) := RS_put hV (by omega) (by omega)
      have hc : cor v19 x1 (10 + 3 * x1 + x2) := cor_put (by omega) (by omega) (by omega)
      have hval : rd M v19 x1 = r (10 + 3 * x1 + x2) := by
        have := e2 x1 (by omega) (by omega)
        rcases hv with ⟨a, b, -⟩ | ⟨a, b, -⟩ | ⟨a, b, -⟩
        · rw [a, b, this.1, Int.add_zero]
        · rw [a, b, this.2.1]; congr 1; omega
        · rw [a, b, this.2.2]; congr 1; omega
      have hSh : ∀ v, Sh (wr M v19 x1 v) := fun v => by
        rcases hv with ⟨a, -⟩ | ⟨a, -⟩ | ⟨a, -⟩
        · rw [a]; exact sW_2 hC.1.1
        · rw [a]; exact sW_3 hC.1.1
        · rw [a]; exact sW_4 hC.1.1
      have hokA : okA M v19 20 x1 := by
        rcases hv with ⟨a, -⟩ | ⟨a, -⟩ | ⟨a, -⟩
        · rw [a]; exact sA_2 hC.1.1 (by omega) (by omega)
        · rw [a]; exact sA_3 hC.1.1 (by omega) (by omega)
        · rw [a]; exact sA_4 hC.1.1 (by omega) (by omega)
      refine ⟨hokA, fun v21 e21 M22 e22 => ?_⟩
      subst e22
      refine ⟨hSh _, CI_lawsC (q := q) hC (Fr.rf.wr (K := fun a _ => a = v19) rfl) (fun a j z => by omega) (COK_wr hC.1.2.1.1 hc (by omega) hr) (hSh _) hq (by omega) (fun M23 C23 f23 => ⟨C23.1.1, fun M24 e24 s24 => ?_⟩)⟩
      subst e24
      have hM1 : MI r sm s tx L ri si (accM M23) := hM.fc (f23.acc (by decide)) (fun a j z => z) s24
      have w0 : rd (wr (accM M23) 67 0 0) 69 0 = r 0 := by rw [rd_wr, if_neg (by decide), hM1.2.1]
      show CM G Y_X12_put d [vA 67, vI x1, vI x2, vI x3] (accM M23) _
      refine CM.of s24 ?_
      refine C_X12_put (B_X12_put_0 (by omega) s24 (fun M1 e1 s1 => ?_))
      subst e1
      refine ⟨h1, h2, h3, fun _ => ⟨by rw [w0]; exact ⟨by omega, by omega⟩, by rw [w0]; exact ⟨by omega, by omega⟩, fun w => absurd (by rw [w0]; omega) w, fun _ => ⟨by omega, by omega, fun M10 e10 s10 => ?_⟩⟩, fun w => absurd hf w⟩
      subst e10
      refine ⟨?_, fin_chg C23.acc hM1 (by omega) hr⟩
      rw [rd_wr, if_neg (by omega), hM1.2.1, e21, hval]
    · subst e25
      rw [e0] at c
      have hM1 : MI r sm s tx L ri si (refM M (-2)) := hM.fc ((Fr.rf.wr (K := fun a _ => a < 67) (by decide)).wr (by decide)) (fun a j z => z) s25
      have w0 : rd (wr (refM M (-2)) 67 0 0) 69 0 = r 0 := by rw [rd_wr, if_neg (by decide), hM1.2.1]
      show CM G Y_X12_put d [vA 67, vI x1, vI x2, vI x3] (refM M (-2)) _
      refine CM.of s25 ?_
      refine C_X12_put (B_X12_put_0 (by omega) s25 (fun M1 e1 s1 => ?_))
      subst e1
      refine ⟨h1, h2, h3, fun _ => ⟨by rw [w0]; exact ⟨by omega, by omega⟩, by rw [w0]; exact ⟨by omega, by omega⟩, fun _ M7 e7 s7 => ?_, fun w => by rw [w0] at w; omega⟩, fun w => absurd hf w⟩
      subst e7
      exact ⟨rfl, fin_ref hC hM (by decide)⟩
  refine C_X11_put (B_X11_put_0 (by omega) hC.1.1 ⟨h2, h3, fun c M3 e3 _ => ?_, fun c => ⟨fun c2 => g27 ?_, fun c2 => ⟨h1, fun c3 => g27 ?_, fun c3 M5 e5 _ => ?_⟩⟩⟩)
  · subst e3; exact R1 (by unfold fitM; omega)
  · unfold fitM; omega
  · unfold fitM bt; omega
  · subst e5; exact R1 (by unfold fitM bt; omega)
end PB
