/-! ===== pairs of calls: the book, heads ===== -/
theorem inRow_F {f : Int → Int} {v n : Int} (h0 : 0 ≤ n) : inRow f v n = false ↔ ∀ j : Int, 0 ≤ j → j < n → f j ≠ v := by
  unfold inRow
  constructor
  · intro h j j0 j1 e
    have : anyTo (fun i => decide (f i = v)) n.toNat = true := anyTo_iff.mpr ⟨j, j0, by omega, by simp [e]⟩
    rw [h] at this; exact absurd this (by decide)
  · intro h
    cases w : anyTo (fun i => decide (f i = v)) n.toNat with
    | false => rfl
    | true =>
      obtain ⟨j, j0, j1, j2⟩ := anyTo_iff.mp w
      exact absurd (of_decide_eq_true j2) (h j j0 (by omega))
theorem popF {p : Int} (h0 : 0 ≤ p) (h1 : p < 32) (h : pop p = 5) {x : Int} (x0 : 0 ≤ x) (x1 : x < 5) : bt p x = 1 :=
  fin2 (P := fun p x => pop p = 5 → bt p x = 1) 32 5 (by decide +kernel) h0 h1 x0 x1 h
/-- five different scenes are all of them -/
theorem pigeon {f : Int → Int} (h : RowOk f 5) {x : Int} (x0 : 0 ≤ x) (x1 : x < 5) : ∃ j : Int, 0 ≤ j ∧ j < 5 ∧ f j = x := by
  obtain ⟨a, b, c, e⟩ := pfx_ok h 5 (by decide)
  exact (e x x0 x1).mp (popF a b c x0 x1)
section BK
variable {G : GG} {d : Nat} {M : MM} {Q : PV → MM → Prop} {r : Int → Int} {sm : Int → LSm} {s tx : Int → Int} {L : List (Int × Int × Int)} {ri : Int → Int → Int} {si : Int → Int → LSm} {q x : Int}
def bkR (r : Int → Int) (x : Int) : Int → Int := upF (upF r (45 + r 3) x) 3 (r 3 + 1)
theorem bk_RS (hV : RS r) (h5 : r 3 < 5) (hx : 0 ≤ x ∧ x < r 0) (hn : ∀ j : Int, 0 ≤ j → j < r 3 → r (45 + j) ≠ x) : RS (upF r (45 + r 3) x) ∧ RS (bkR r x) := by
  have hV' := hV
  obtain ⟨_, v5, _, _, _, _, _, _, _, _, _, _, _, _, h0, _, hb, hdst, _⟩ := hV'
  have R1 : RS (upF r (45 + r 3) x) := hV.up (by omega) (by omega) (by omega) ⟨by omega, by omega, by omega⟩ (by omega) (by omega) ⟨fun t _ _ => by omega, by omega⟩ ⟨fun t t0 t1 => by omega, by omega, by omega⟩
  have z0 : upF r (45 + r 3) x 0 = r 0 := upF_ne (by omega)
  refine ⟨R1, R1.up (by omega) (by omega) (by omega) ⟨by omega, by omega, by omega⟩ (by omega) (by omega) ⟨fun t _ _ => by omega, fun _ => ⟨by omega, by omega, fun t t0 t1 => ?_, fun t u t0 t1 t2 => ?_⟩⟩ ⟨fun t t0 t1 => by omega, by omega, by omega⟩⟩
  · rw [z0]
    by_cases w : t = r 3
    · rw [w, upF_eq]; exact hx
    · rw [upF_ne (by omega)]; exact hb t t0 (by omega)
  · by_cases w : u = r 3
    · rw [w, upF_eq, upF_ne (by omega)]; exact hn t t0 (by omega)
    · rw [upF_ne (by omega), upF_ne (by omega)]; exact hdst t u t0 t1 (by omega)
theorem bkM_Y (hM : MI r sm s tx L ri si M) (hx : inR x) (hd : 2 ≤ d) (hi : ∃ j : Int, 0 ≤ j ∧ j < r 3 ∧ r (45 + j) = x) (h : Q (vI (-3)) (telM M (-3))) : ∀ (m : Nat) (i : Int), (r 3 - i).toNat = m → 0 ≤ i → i ≤ r 3 → (∀ j : Int, 0 ≤ j → j < i → r (45 + j) ≠ x) → X G Y_X12_book d 0 0 22 [vA 67, vI x, vI i] [] M Q := by
  obtain ⟨j, j0, j1, j2⟩ := hi
  have hV := hM.2.2.1.1
  have er := hM.2.1
  obtain ⟨_, v5, _, _, _, _, _, _, _, _, _, _, _, _, h0, h5, hb, _⟩ := hV
  intro m
  induction m with
  | zero => intro i hm i0 i1 hn; exact absurd j2 (hn j j0 (by omega))
  | succ m ih =>
    intro i hm i0 i1 hn
    have := hb i i0 (by omega)
    refine B_X12_book_22 hd hM.1 ?_
    rw [er]
    refine ⟨⟨by omega, by omega⟩, ⟨by omega, by omega⟩, fun w => by omega, fun w => ⟨by omega, by omega, ⟨by omega, by omega⟩, hx, fun w2 => ih (i + 1) (by omega) (by omega) (by omega) (fun j j0 j1 => ?_), fun w2 M13 e13 s13 => ?_⟩⟩
    · by_cases z : j = i
      · rw [z]; exact w2
      · exact hn j j0 (by omega)
    · subst e13; exact h
theorem bkM_N (hM : MI r sm s tx L ri si M) (hx : inR x) (hd : 2 ≤ d) (hx2 : 0 ≤ x ∧ x < r 0) (h3 : r 3 < 5) (hn : ∀ j : Int, 0 ≤ j → j < r 3 → r (45 + j) ≠ x) (h : ∀ M', MI (bkR r x) sm s tx L ri si M' → Fr KMd M M' → Q (vI (r 3 + 1)) (telM M' (r 3 + 1))) : ∀ (m : Nat) (i : Int), (r 3 - i).toNat = m → 0 ≤ i → i ≤ r 3 → X G Y_X12_book d 0 0 22 [vA 67, vI x, vI i] [] M Q := by
  have hV := hM.2.2.1.1
  have er := hM.2.1
  obtain ⟨R1, R2⟩ := bk_RS hV h3 hx2 hn
  obtain ⟨_, v5, _, _, _, _, _, _, _, _, _, _, _, _, h0, h5, hb, _⟩ := hV
  intro m
  induction m with
  | zero =>
    intro i hm i0 i1
    refine B_X12_book_22 hd hM.1 ?_
    rw [er]
    refine ⟨⟨by omega, by omega⟩, ⟨by omega, by omega⟩, fun w => ⟨by omega, by omega, fun M5 e5 s5 M6 e6 s6 => ?_⟩, fun w => by omega⟩
    have m5 : MI (upF r (45 + r 3) x) sm s tx L ri si M5 := by rw [e5]; exact hM.rw (by omega) R1
    have z5 : rd M5 69 3 = r 3 := by rw [m5.2.1]; exact upF_ne (by omega)
    rw [z5] at e6
    have m6 : MI (bkR r x) sm s tx L ri si M6 := by rw [e6]; exact m5.rw (by decide) R2
    have z6 : rd M6 69 3 = r 3 + 1 := by rw [m6.2.1]; exact upF_eq
    rw [z6]
    refine ⟨⟨by omega, by omega, by omega⟩, fun M8 e8 s8 => ?_⟩
    subst e8
    exact h M6 m6 (by rw [e6, e5]; exact (Fr.rf.wr ⟨by decide, by decide⟩).wr ⟨by decide, by decide⟩)
  | succ m ih =>
    intro i hm i0 i1
    have := hb i i0 (by omega)
    refine B_X12_book_22 hd hM.1 ?_
    rw [er]
    exact ⟨⟨by omega, by omega⟩, ⟨by omega, by omega⟩, fun w => by omega, fun w => ⟨by omega, by omega, ⟨by omega, by omega⟩, hx, fun w2 => ih (i + 1) (by omega) (by omega) (by omega), fun w2 => absurd w2 (hn i i0 (by omega))⟩⟩
theorem P_book (hx : inR x) (h : INV q M) (hd : 60 ≤ d) : PR G d 0 0 Y_X11_book Y_X12_book [vI x] q M := by
  obtain ⟨r, sm, s, tx, L, ri, si, hC, hM⟩ := h
  unfold PR
  have hO := hC.1.2.1.1
  have hV := hM.2.2.1.1
  have v0 := hV.1
  have v5 := hV.2.1
  have b3 := bk_ok hV
  have e0 : rd M 1 0 = r 0 := hO.1.1
  have e12 : rd M 1 12 = r 3 := hO.1.2.2.2.2.2.2.1
  refine C_X11_book (B_X11_book_0 (r := r) (by omega) hC.1.1 ⟨hx, by rw [e0]; exact ⟨by omega, by omega⟩, fun c => ⟨hO.1, hV, by rw [e12]; exact ⟨by omega, by omega⟩, fun c2 M20 e20 s20 => ?_, fun c2 => ⟨by omega, by omega, fun M23 e23 s23 M24 e24 s24 M25 e25 s25 M26 e26 s26 => ?_⟩⟩, fun c M28 e28 s28 => ?_⟩)
  · rw [e0] at c
    rw [e12] at c2
    subst e20
    have m1 : MI r sm s tx L ri si (refM M (-3)) := hM.fc ((Fr.rf.wr (K := fun a _ => a < 67) (by decide)).wr (by decide)) (fun a j z => z) s20
    have ex : ∃ j : Int, 0 ≤ j ∧ j < r 3 ∧ r (45 + j) = x := by
      rcases c2 with c2 | c2
      · obtain ⟨j, j0, j1, j2⟩ := anyTo_iff.mp c2
        exact ⟨j, j0, by omega, of_decide_eq_true j2⟩
      · have hR := b3.1
        rw [c2] at hR ⊢
        exact pigeon (f := bkf r) hR c.1 (by omega)
    show CM G Y_X12_book d [vA 67, vI x] (refM M (-3)) _
    refine CM.of s20 ?_
    refine C_X12_book (B_X12_book_0 (by omega) s20 (fun N1 g1 k1 => ?_))
    subst g1
    have z0 : rd (wr (refM M (-3)) 67 0 0) 69 0 = r 0 := by rw [rd_wr, if_neg (by decide), m1.2.1]
    rw [z0]
    exact ⟨hx, ⟨by omega, by omega⟩, ⟨by omega, by omega⟩, fun _ => bkM_Y m1.thr hx (by omega) ex ⟨rfl, fin_ref hC hM (by decide)⟩ _ 0 rfl (by decide) b3.2.1 (fun j j0 j1 => by omega), fun w => absurd (by omega) w⟩
  · rw [e0] at c
    rw [e12] at c2 e23
    have h35 : r 3 < 5 := by omega
    have hn : ∀ j : Int, 0 ≤ j → j < r 3 → r (45 + j) ≠ x := by
      have w : inRow (fun i => r (45 + i)) x (r 3) = false := by
        cases z : inRow (fun i => r (45 + i)) x (r 3) with
        | false => rfl
        | true => exact absurd (Or.inl z) c2
      exact (inRow_F b3.2.1).mp w
    obtain ⟨R1, R2⟩ := bk_RS hV h35 c hn
    have z23 : rd M23 1 12 = r 3 := by rw [e23, rd_wr, if_neg (by omega)]; exact e12
    rw [z23] at e24
    have K23 : COK M23 (upF r (45 + r 3) x) sm := by rw [e23]; exact COK_wr hO (Or.inr (Or.inr (Or.inr (Or.inr (Or.inr (Or.inr (Or.inr (Or.inr (Or.inr (Or.inr (Or.inr (Or.inl ⟨rfl, b3.2.1, h35, rfl⟩)))))))))))) (by omega) R1
    have K24 : COK M24 (bkR r x) sm := by rw [e24]; exact COK_wr K23 (Or.inr (Or.inr (Or.inr (Or.inr (Or.inr (Or.inr (Or.inr (Or.inr (Or.inr (Or.inr (Or.inl ⟨rfl, rfl, rfl⟩))))))))))) (by decide) R2
    have K25 : COK M25 (bkR r x) sm := by rw [e25]; exact K24.fr (Fr.rf.wr (K := fun a _ => a = 39) rfl) (fun a j z => by omega)
    have f25 : Fr (fun a j => a = 1 ∨ a = 10 ∨ (a = 39 ∧ j = 4)) M M25 := by rw [e25, e24, e23]; exact ((Fr.rf.wr (by omega)).wr (by omega)).wr (by omega)
    have u : ∀ j : Int, j ≠ 3 → ¬ (45 ≤ j ∧ j ≤ 49) → bkR r x j = r j := fun j w w2 => by unfold bkR; rw [upF_ne w, upF_ne (by omega)]
    have P25 : PL (bkR r x) sm M25 := PL_hs hC.1 ⟨⟨u 0 (by decide) (by decide), u 2 (by decide) (by decide), fun j j0 j1 => u j (by omega) (by omega), fun _ => rfl⟩, fun j j0 j1 => u j (by omega) (by omega)⟩ (fun a j w w2 => f25.2.2 a j (by omega)) s25 K25 (Or.inl (by rw [e25, rd_wr, if_pos ⟨rfl, rfl⟩]))
    have C25 : CI (q + 1) (bkR r x) sm s tx L ri si M25 := hC.to P25 f25 (fun a j z => by omega) (by rw [f25.2.2 32 9 (by omega), f25.2.2 44 9 (by omega)]; have := hC.2.2.1; omega)
    have ev : rd M25 1 12 = r 3 + 1 := by rw [C25.1.2.1.1.1.2.2.2.2.2.2.1]; exact upF_eq
    rw [ev]
    subst e26
    have m1 : MI r sm s tx L ri si (accM M25) := hM.fc ((f25.mono (fun a j z => by omega) : Fr (fun a _ => a < 67) M M25).acc (by decide)) (fun a j z => z) s26
    show CM G Y_X12_book d [vA 67, vI x] (accM M25) _
    refine CM.of s26 ?_
    refine C_X12_book (B_X12_book_0 (by omega) s26 (fun N1 g1 k1 => ?_))
    subst g1
    have z0 : rd (wr (accM M25) 67 0 0) 69 0 = r 0 := by rw [rd_wr, if_neg (by decide), m1.2.1]
    rw [z0]
    refine ⟨hx, ⟨by omega, by omega⟩, ⟨by omega, by omega⟩, fun _ => bkM_N m1.thr hx (by omega) c h35 hn (fun N2 n2 f2 => ⟨rfl, ?_⟩) _ 0 rfl (by decide) b3.2.1, fun w => absurd (by omega) w⟩
    exact INV.mk' C25.acc (n2.telA (by omega)) (((Fr.rf.wr (K := KMd) ⟨by decide, by decide⟩).tr f2).tel ⟨by decide, by decide⟩ (fun _ => ⟨by decide, by decide⟩)) (fun a j z => z)
  · rw [e0] at c
    subst e28
    have m1 : MI r sm s tx L ri si (refM M (-2)) := hM.fc ((Fr.rf.wr (K := fun a _ => a < 67) (by decide)).wr (by decide)) (fun a j z => z) s28
    show CM G Y_X12_book d [vA 67, vI x] (refM M (-2)) _
    refine CM.of s28 ?_
    refine C_X12_book (B_X12_book_0 (by omega) s28 (fun N1 g1 k1 => ?_))
    subst g1
    have z0 : rd (wr (refM M (-2)) 67 0 0) 69 0 = r 0 := by rw [rd_wr, if_neg (by decide), m1.2.1]
    rw [z0]
    refine ⟨hx, ⟨by omega, by omega⟩, ⟨by omega, by omega⟩, fun w => absurd (by omega) c, fun _ M5 e5 s5 => ?_⟩
    subst e5
    exact ⟨rfl, fin_ref hC hM (by decide)⟩
/-! heads -/
theorem HR_hd (h : HR M r) (hx : x ≠ -1) : HR (wr (wr M 1 13 1) 11 0 x) (upF r 5 x) := by
  have key : ∀ c' j k', ¬ (c' = 1 ∧ j = 13) → ¬ (c' = 11 ∧ j = 0) → k' ≠ 5 → rd M c' j = r k' → rd (wr (wr M 1 13 1) 11 0 x) c' j = upF r 5 x k' := fun c' j k' a b e g => by
    rw [rd_wr, if_neg b, rd_wr, if_neg a, upF_ne e]; exact g
  obtain ⟨h1, h2, h3, h4, h5, h6, h7, h8, h9, h10, h11, h12⟩ := h
  exact ⟨key _ _ _ (by omega) (by omega) (by omega) h1, fun s a b => ⟨key _ _ _ (by omega) (by omega) (by omega) (h2 s a b).1, key _ _ _ (by omega) (by omega) (by omega) (h2 s a b).2.1, key _ _ _ (by omega) (by omega) (by omega) (h2 s a b).2.2⟩, fun s a b => ⟨key _ _ _ (by omega) (by omega) (by omega) (h3 s a b).1, key _ _ _ (by omega) (by omega) (by omega) (h3 s a b).2.1, key _ _ _ (by omega) (by omega) (by omega) (h3 s a b).2.2⟩, fun s a b => key _ _ _ (by omega) (by omega) (by omega) (h4 s a b), key _ _ _ (by omega) (by omega) (by omega) h5, key _ _ _ (by omega) (by omega) (by omega) h6, key _ _ _ (by omega) (by omega) (by omega) h7, fun s a b => key _ _ _ (by omega) (by omega) (by omega) (h8 s a b), key _ _ _ (by omega) (by omega) (by omega) h9, by rw [upF_eq, if_neg hx, rd_wr, if_neg (by omega), rd_wr, if_pos ⟨rfl, rfl⟩], fun _ => by rw [upF_eq, rd_wr, if_pos ⟨rfl, rfl⟩], fun s a b => ⟨key _ _ _ (by omega) (by omega) (by omega) (h12 s a b).1, key _ _ _ (by omega) (by omega) (by omega) (h12 s a b).2⟩⟩
/-- the row has changed behind the laws and the book alone -/
theorem CI_tail {r' : Int → Int} {M' : MM} {K : Int → Int → Prop} (hC : CI q r sm s tx L ri si M) (f : Fr K M M') (hK : ∀ a j, K a j → a = 1 ∨ a = 11 ∨ a = 12) (hO : COK M' r' sm) (hS : Sh M') (hu : ∀ j : Int, j ≠ 4 → j ≠ 5 → ¬ (50 ≤ j ∧ j ≤ 59) → r' j = r j) : CI (q + 1) r' sm s tx L ri si M' := by
  have e : ∀ a j, 13 ≤ a → rd M' a j = rd M a j := fun a j w => f.2.2 a j (fun z => by have := hK a j z; omega)
  have P' : PL r' sm M' := PL_hs hC.1 ⟨⟨hu 0 (by decide) (by decide) (by decide), hu 2 (by decide) (by decide) (by decide), fun j j0 j1 => hu j (by omega) (by omega) (by omega), fun _ => rfl⟩, fun j j0 j1 => hu j (by omega) (by omega) (by omega)⟩ (fun a j w w2 => e a j (by omega)) hS hO (Or.inr ⟨e 39 4 (by decide), hu 3 (by decide) (by decide) (by decide), fun j j0 j1 => hu j (by omega) (by omega) (by omega)⟩)
  exact hC.to P' f (fun a j z => by have := hK a j z; omega) (by rw [e 32 9 (by decide), e 44 9 (by decide)]; have := hC.2.2.1; omega)
theorem P_heads (hx : inR x) (h : INV q M) (hd : 60 ≤ d) : PR G d 0 0 Y_X11_heads Y_X12_heads [vI x] q M := by
  obtain ⟨r, sm, s, tx, L, ri, si, hC, hM⟩ := h
  unfold PR
  have hO := hC.1.2.1.1
  have hV := hM.2.2.1.1
  refine C_X11_heads (B_X11_heads_0 (by omega) hC.1.1 ⟨hx, fun c M10 e10 s10 => ?_, fun c M11 e11 s11 M12 e12 s12 M13 e13 s13 M14 e14 s14 => ?_⟩)
  · subst e10
    show CM G Y_X12_heads d [vA 67, vI x] (refM M (-1)) _
    refine CM.of s10 ?_
    refine C_X12_heads (B_X12_heads_0 (by omega) s10 (fun N1 g1 k1 => ?_))
    subst g1
    refine ⟨hx, fun w => absurd c (by omega), fun _ M6 e6 s6 => ?_⟩
    subst e6
    exact ⟨rfl, fin_ref hC hM (Or.inl rfl)⟩
  · have R1 : RS (upF r 4 0) := hV.up (by omega) (by omega) (by omega) ⟨by omega, by omega, by omega⟩ (by omega) (by omega) ⟨fun t _ _ => by omega, by omega⟩ ⟨fun t t0 t1 => by omega, by omega, fun _ => ⟨by decide, by decide, fun _ => rfl, fun t t0 t1 => by omega, fun t u t0 t1 t2 => by omega⟩⟩
    have R2 : RS (upF (upF r 4 0) 5 x) := R1.up (by omega) (by omega) (by omega) ⟨by omega, by omega, by omega⟩ (by omega) (by omega) ⟨fun t _ _ => by omega, by omega⟩ ⟨fun t t0 t1 => by omega, fun _ => ⟨upF_eq, by omega, by omega⟩, by omega⟩
    have e13' : M13 = wr (wr (wr M 1 16 0) 1 13 1) 11 0 x := by
      rw [e13, e12, e11, wr_comm (by omega), wr_comm (a := 1) (i := 13) (b := 1) (j := 16) (by omega)]
    have H1 : HR (wr M 1 16 0) (upF r 4 0) := HR_wr hO.1 (Or.inr (Or.inr (Or.inr (Or.inr (Or.inr (Or.inr (Or.inr (Or.inr (Or.inr (Or.inr (Or.inr (Or.inr (Or.inl ⟨rfl, rfl, rfl⟩)))))))))))))
    have f13 : Fr (fun a _ => a = 1 ∨ a = 11 ∨ a = 12) M M13 := by rw [e13']; exact ((Fr.rf.wr (by omega)).wr (by omega)).wr (by omega)
    have K13 : COK M13 (upF (upF r 4 0) 5 x) sm := ⟨by rw [e13']; exact HR_hd H1 (by omega), R2, fun l l0 l1 => by
      rw [upF_ne (by decide), upF_ne (by decide)] at l1
      exact (hO.2.2.frK f13 (fun a j z => by omega)) l l0 l1⟩
    have C13 := CI_tail hC f13 (fun a j z => z) K13 s13 (fun j w1 w2 w3 => by rw [upF_ne w2, upF_ne w1])
    subst e14
    have m1 : MI r sm s tx L ri si (accM M13) := hM.fc ((f13.mono (fun a j z => by omega) : Fr (fun a _ => a < 67) M M13).acc (by decide)) (fun a j z => z) s14
    show CM G Y_X12_heads d [vA 67, vI x] (accM M13) _
    refine CM.of s14 ?_
    refine C_X12_heads (B_X12_heads_0 (by omega) s14 (fun N1 g1 k1 => ?_))
    subst g1
    refine ⟨hx, fun _ N3 g3 k3 N4 g4 k4 N5 g5 k5 => ⟨rfl, ?_⟩, fun w => absurd (by omega) w⟩
    have g4' : N4 = wr (wr (wr (accM M13) 67 0 0) 69 4 0) 69 5 x := by rw [g4, g3, wr_comm (by omega)]
    have n4 : MI (upF (upF r 4 0) 5 x) sm s tx L ri si N4 := by rw [g4']; exact (m1.thr.rw (by decide) R1).rw (by decide) R2
    rw [g5]
    exact INV.mk' C13.acc (n4.telA (by decide)) ((by rw [g4']; exact ((Fr.rf.wr ⟨by decide, by decide⟩).wr ⟨by decide, by decide⟩).wr ⟨by decide, by decide⟩ : Fr KMd (accM M13) N4).tel ⟨by decide, by decide⟩ (fun _ => ⟨by decide, by decide⟩)) (fun a j z => z)
/-! heads behind scenes -/
def styR (r : Int → Int) (x h : Int) : Int → Int := upF (upF (upF r (50 + r 4) x) (55 + r 4) h) 4 (r 4 + 1)
theorem sty_RS {hh : Int} (hV : RS r) (h5 : r 4 < 5) (hx : 0 ≤ x ∧ x < r 0) (hh0 : 0 ≤ hh ∧ hh ≤ 10) (hne : r 5 ≠ -1) (hn : ∀ j : Int, 0 ≤ j → j < r 4 → r (50 + j) ≠ x) : RS (upF r (50 + r 4) x) ∧ RS (upF (upF r (50 + r 4) x) (55 + r 4) hh) ∧ RS (styR r x hh) := by
  have hV' := hV
  obtain ⟨_, v5, _, _, _, _, _, _, _, _, _, _, _, _, _, b5, _, _, h0, _, _, _, _, hb, hdst⟩ := hV'
  have R1 : RS (upF r (50 + r 4) x) := hV.up (by omega) (by omega) (by omega) ⟨by omega, by omega, by omega⟩ (by omega) (by omega) ⟨fun t t0 t1 => by omega, by omega⟩ ⟨fun t t0 t1 => by omega, by omega, by omega⟩
  have R2 : RS (upF (upF r (50 + r 4) x) (55 + r 4) hh) := R1.up (by omega) (by omega) (by omega) ⟨by omega, by omega, by omega⟩ (by omega) (by omega) ⟨fun t t0 t1 => by rw [upF_ne (by omega)] at t1; omega, by omega⟩ ⟨fun t t0 t1 => by rw [upF_ne (by omega)] at t1; omega, by omega, by omega⟩
  have z : ∀ j : Int, j < 50 → upF (upF r (50 + r 4) x) (55 + r 4) hh j = r j := fun j w => by rw [upF_ne (by omega), upF_ne (by omega)]
  refine ⟨R1, R2, R2.up (by omega) (by omega) (by omega) ⟨by omega, by omega, by omega⟩ (by omega) (by omega) ⟨fun t t0 t1 => by omega, by omega⟩ ⟨fun t t0 t1 => by omega, by omega, fun _ => ⟨by omega, by omega, fun w => ?_, fun t t0 t1 => ?_, fun t u t0 t1 t2 => ?_⟩⟩⟩
  · rw [z 5 (by decide)] at w; exact absurd w hne
  · rw [z 0 (by decide)]
    by_cases w : t = r 4
    · rw [w, upF_ne (by omega), upF_eq, upF_eq]; omega
    · rw [upF_ne (by omega), upF_ne (by omega), upF_ne (by omega), upF_ne (by omega)]; exact hb t t0 (by omega)
  · by_cases w : u = r 4
    · rw [w, upF_ne (by omega), upF_ne (by omega), upF_ne (by omega), upF_eq]; exact hn t t0 (by omega)
    · rw [upF_ne (by omega), upF_ne (by omega), upF_ne (by omega), upF_ne (by omega)]; exact hdst t u t0 t1 (by omega)
end BK
