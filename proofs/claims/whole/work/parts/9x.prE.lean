/-! ===== pairs of calls: rows of scenes, the book, heads ===== -/
def rwF (tx : Int → Int) (had : Int) : Nat → Int → (Int → Int) → Int → Int → (Int → Int) × Int × Int
  | 0, _, r, c, t => (r, c, t)
  | n + 1, k, r, c, t => if had ≤ k then (r, c, t) else if k + 2 < had ∧ r 0 < 5 ∧ coBe (r 0) (tx k) (tx (k + 1)) (tx (k + 2)) then rwF tx had n (k + 3) (adR r (tx k) (tx (k + 1)) (tx (k + 2))) (c + 1) t else rwF tx had n (k + 3) r c (t + 1)
theorem rwF_end {tx : Int → Int} {had k : Int} {r : Int → Int} {c t : Int} (h : had ≤ k) : ∀ n : Nat, rwF tx had n k r c t = (r, c, t)
  | 0 => rfl
  | n + 1 => by rw [rwF, if_pos h]
section RW
variable {G : GG} {d : Nat} {M M0 : MM} {Q : PV → MM → Prop} {r r0 : Int → Int} {sm : Int → LSm} {s tx : Int → Int} {L : List (Int × Int × Int)} {ri : Int → Int → Int} {si : Int → Int → LSm} {q : Int} {had before : Int} {R : (Int → Int) × Int × Int}
theorem COK_0 {i v : Int} (h : COK M r sm) : COK (wr M 0 i v) r sm := ⟨h.1.fr (fun a j w => by rw [rd_wr, if_neg (by unfold KH at w; omega)]), h.2.1, h.2.2.frK (Fr.rf.wr (K := fun a _ => a = 0) rfl) (fun a j z => by omega)⟩
theorem rowC (hd : 60 ≤ d) (e3 : rd M0 0 3 = had) (et : ∀ j, rd M0 14 j = tx j) (h4 : 0 ≤ had ∧ had ≤ 400) (hb : ∀ j, 0 ≤ tx j ∧ tx j ≤ 255)
    (hq : ∀ M, COK M R.1 sm → Fr (fun x _ => 1 ≤ x ∧ x ≤ 4) M0 M → R.1 0 = before + R.2.1 → ∀ M5, M5 = wr (wr M 0 3 0) 0 4 R.2.2 → Sh M5 → C G Y_X6_lawsChanged (d - 1) 0 0 [vA 39] M5 (rU (fun M6 => Sh M6 ∧ ∀ M7, M7 = accM M6 → Sh M7 → Q (vI R.2.1) M7))) :
    ∀ (n : Nat) (k : Int) (r : Int → Int) (c t p : Int) (M : MM), rwF tx had n k r c t = R → p = c + t → had - k ≤ 3 * n → 0 ≤ k → k ≤ 402 → COK M r sm → Sh M → Fr (fun x _ => 1 ≤ x ∧ x ≤ 4) M0 M → r 0 = before + c → X G Y_X11_row d 0 0 26 [vA 0, vI before, vI p, vI k, vU] [] M Q := by
  intro n
  induction n with
  | zero =>
    intro k r c t p M hR hp hn h0 h2 hO hS f hr
    have e03 : rd M 0 3 = had := by rw [f.2.2 0 3 (by omega)]; exact e3
    have e10 : rd M 1 0 = r 0 := hO.1.1
    refine B_X11_row_26 (r := r) (by omega) hS ⟨⟨by omega, by omega⟩, by rw [e03]; exact ⟨by omega, by omega⟩, fun w M3 g3 s3 v4 gv M5 g5 s5 => ?_, fun w => by omega⟩
    have z : rd M3 1 0 = r 0 := by rw [g3, rd_wr, if_neg (by omega)]; exact e10
    rw [z] at gv
    subst hR
    have e4 : v4 = c := by omega
    have e5 : p - v4 = t := by omega
    rw [e5, g3] at g5
    rw [e4]
    exact hq M hO f hr M5 g5 s5
  | succ n ih =>
    intro k r c t p M hR hp hn h0 h2 hO hS f hr
    have e03 : rd M 0 3 = had := by rw [f.2.2 0 3 (by omega)]; exact e3
    have e10 : rd M 1 0 = r 0 := hO.1.1
    have hV := hO.2.1
    have v0 := hV.1
    have v5 := hV.2.1
    have et' : ∀ j, rd M 14 j = tx j := fun j => by rw [f.2.2 14 j (by omega)]; exact et j
    have b0 := hb k
    have b1 := hb (k + 1)
    have b2 := hb (k + 2)
    refine B_X11_row_26 (r := r) (by omega) hS ⟨⟨by omega, by omega⟩, by rw [e03]; exact ⟨by omega, by omega⟩, fun w M3 g3 s3 v4 gv M5 g5 s5 => ?_, fun w => ?_⟩
    · rw [e03] at w
      have z : rd M3 1 0 = r 0 := by rw [g3, rd_wr, if_neg (by omega)]; exact e10
      rw [z] at gv
      rw [rwF_end w] at hR
      subst hR
      have e4 : v4 = c := by omega
      have e5 : p - v4 = t := by omega
      rw [e5, g3] at g5
      rw [e4]
      exact hq M hO f hr M5 g5 s5
    · rw [e03] at w
      rw [e03, e10, et', et', et']
      rw [rwF, if_neg (by omega)] at hR
      refine ⟨⟨by omega, by omega⟩, ⟨by omega, by omega⟩, fun w2 => B_X11_row_62 (by omega) hS ?_, fun w2 => ⟨h0, by omega, by omega, by omega, by omega, by omega, hO.1, hV, ⟨by omega, by omega⟩, ⟨by omega, by omega⟩, ⟨by omega, by omega⟩, fun w3 => ?_, fun w3 => ?_⟩⟩
      · rw [if_neg (by omega)] at hR
        exact ih (k + 3) r c (t + 1) (p + 1) M hR (by omega) (by omega) (by omega) (by omega) hO hS f hr
      · rw [if_neg (fun z => w3 z.2.2)] at hR
        exact ih (k + 3) r c (t + 1) (p + 1) M hR (by omega) (by omega) (by omega) (by omega) hO hS f hr
      · rw [if_pos ⟨by omega, by omega, w3⟩] at hR
        have w' : (1 ≤ tx k ∧ tx k ≤ 60) ∧ (0 ≤ tx (k + 1) ∧ tx (k + 1) ≤ 31) ∧ (0 ≤ tx (k + 2) ∧ tx (k + 2) ≤ 1) := by unfold coBe at w3; omega
        refine T_X4_add hO hS (by omega) w'.1 w'.2.1 w'.2.2 (by omega) (fun M29 K29 s29 f29 => ⟨s29, ?_⟩)
        exact ih (k + 3) _ (c + 1) t (p + 1) M29 hR (by omega) (by omega) (by omega) (by omega) K29 s29 (f.tr f29) (by rw [adR_0, hr]; omega)
theorem rowM (hd : 60 ≤ d) (h4 : 0 ≤ had ∧ had ≤ 400) (hb : ∀ j, 0 ≤ tx j ∧ tx j ≤ 255) (hbe : 0 ≤ before)
    (hq : ∀ M, MI R.1 sm (upF s 4 R.2.2) tx L ri si M → Fr KMd M0 M → (0 ≤ R.2.1 ∧ R.2.1 ≤ 5) → Q (vI R.2.1) (telM M R.2.1)) :
    ∀ (n : Nat) (k : Int) (r : Int → Int) (c t : Int) (M : MM), rwF tx had n k r c t = R → had - k ≤ 3 * n → 0 ≤ k → k ≤ 402 → 0 ≤ c → MI r sm (upF s 4 t) tx L ri si M → Fr KMd M0 M → r 0 = before + c → X G Y_X12_row d 0 0 35 [vA 67, vI had, vI c, vI k, vU, vU] [] M Q := by
  intro n
  induction n with
  | zero =>
    intro k r c t M hR hn h0 h2 hc hM f hr
    have v5 := hM.2.2.1.1.2.1
    subst hR
    refine B_X12_row_35 (by omega) hM.1 ⟨⟨by omega, by omega⟩, ⟨by omega, by omega⟩, fun w => ⟨⟨by omega, by omega, by omega⟩, fun M4 e4 s4 => ?_⟩, fun w => by omega⟩
    subst e4
    exact hq M hM f ⟨by show 0 ≤ c; omega, by show c ≤ 5; omega⟩
  | succ n ih =>
    intro k r c t M hR hn h0 h2 hc hM f hr
    have hV := hM.2.2.1.1
    have v0 := hV.1
    have v5 := hV.2.1
    have et' : ∀ j, rd M 72 j = tx j := hM.2.2.2.1.1
    have e0 : rd M 69 0 = r 0 := by rw [hM.2.1]
    have b0 := hb k
    have b1 := hb (k + 1)
    have b2 := hb (k + 2)
    have cut : k < had → rwF tx had n (k + 3) r c (t + 1) = R → ∀ x4 x5, X G Y_X12_row d 0 0 126 [vA 67, vI had, vI c, vI k, vI x4, vI x5] [] M Q := by
      intro hk hR' x4 x5
      refine B_X12_row_126 (by omega) hM.1 (fun M1 e1 s1 => ?_)
      have e6 : rd M 67 6 = t := by rw [hM.2.2.2.1.2.2.1]; exact upF_eq
      rw [e6] at e1
      have m1 : MI r sm (upF s 4 (t + 1)) tx L ri si M1 := by
        have := hM.w67 (i := 4) (j := 6) (v := t + 1) (Or.inr (Or.inl ⟨rfl, rfl⟩))
        rw [upF_up] at this
        rw [e1]; exact this
      exact ih (k + 3) r c (t + 1) M1 hR' (by omega) (by omega) (by omega) hc m1 (by rw [e1]; exact f.wr ⟨by decide, by decide⟩) hr
    refine B_X12_row_35 (by omega) hM.1 ⟨⟨by omega, by omega⟩, ⟨by omega, by omega⟩, fun w => ⟨⟨by omega, by omega, by omega⟩, fun M4 e4 s4 => ?_⟩, fun w v5' ev => ?_⟩
    · subst e4
      rw [rwF_end w] at hR
      subst hR
      exact hq M hM f ⟨by show 0 ≤ c; omega, by show c ≤ 5; omega⟩
    · rw [e0] at ev
      subst ev
      rw [et', et', et']
      rw [rwF, if_neg (by omega)] at hR
      refine ⟨⟨by omega, by omega⟩, ⟨by omega, by omega⟩, fun w2 => B_X12_row_65 (by omega) hM.1 (cut w ?_ _ _), fun w2 => ⟨h0, by omega, ⟨by omega, by omega⟩, fun w3 => cut w ?_ _ _, fun w3 => ⟨by omega, by omega, ⟨by omega, by omega⟩, fun w4 => cut w ?_ _ _, fun w4 => ⟨by omega, by omega, ⟨by omega, by omega⟩, fun w5 => cut w ?_ _ _, fun w5 => ?_⟩⟩⟩⟩
      · rw [if_neg (by omega)] at hR; exact hR
      · rw [if_neg (fun z => w3 (by have := z.2.2; unfold coBe at this; unfold fitM; omega))] at hR; exact hR
      · rw [if_neg (fun z => w4 (by have := z.2.2; unfold coBe at this; unfold fitM; omega))] at hR; exact hR
      · rw [if_neg (fun z => w5 (by have := z.2.2; unfold coBe at this; unfold fitM; omega))] at hR; exact hR
      · rw [if_pos ⟨by omega, by omega, by unfold fitM at w3 w4 w5; unfold coBe; omega⟩] at hR
        have w' : (1 ≤ tx k ∧ tx k ≤ 60) ∧ (0 ≤ tx (k + 1) ∧ tx (k + 1) ≤ 31) ∧ (0 ≤ tx (k + 2) ∧ tx (k + 2) ≤ 1) := by unfold fitM at w3 w4 w5; omega
        refine T_add12 hM (by omega) w'.1 w'.2.1 w'.2.2 (by omega) (fun M23 m23 f23 => ⟨m23.1, ?_⟩)
        exact ih (k + 3) _ (c + 1) t M23 hR (by omega) (by omega) (by omega) (by omega) m23 (f.tr f23) (by rw [adR_0, hr]; omega)
theorem P_row (hq : 0 ≤ q ∧ q ≤ 1000) (h : INV q M) (hd : 60 ≤ d) : PR G d 0 0 Y_X11_row Y_X12_row [] q M := by
  obtain ⟨r, sm, s, tx, L, ri, si, hC, hM⟩ := h
  unfold PR
  have hO := hC.1.2.1.1
  have hV := hM.2.2.1.1
  have e3 := hC.2.1.2.1
  have hb := hM.2.2.2.2.2.2.2.2
  refine C_X11_row (B_X11_row_0 (by omega) hC.1.1 ⟨by rw [e3]; exact ⟨by omega, by omega⟩, fun w v2 ev => ?_, fun w M3 g3 s3 => ?_⟩)
  · rw [e3] at w
    have e10 : rd M 1 0 = r 0 := hO.1.1
    rw [e10] at ev
    subst ev
    refine rowC (R := rwF tx (s 3) 134 0 r 0 0) hd e3 hC.2.1.1 hb.1 hb.2.1 ?_ 134 0 r 0 0 0 M rfl rfl (by omega) (by decide) (by decide) hO hC.1.1 Fr.rf (by omega)
    generalize hR : rwF tx (s 3) 134 0 r 0 0 = R
    intro M1 K1 f1 hr1 M5 e5 s5
    have c5 := (hC.w0 (i := 3) (v := 0) (Or.inl rfl)).w0 (i := 4) (v := R.2.2) (Or.inr (Or.inl rfl))
    have f5 : Fr (fun x _ => 1 ≤ x ∧ x ≤ 4) (wr (wr M 0 3 0) 0 4 R.2.2) M5 := by rw [e5]; exact Fr_wr2 (Fr_wr2 f1)
    refine CI_lawsC (q := q) c5 f5 (fun a j z => by omega) (by rw [e5]; exact COK_0 (COK_0 K1)) s5 hq (by omega) (fun M6 C6 f6 => ⟨C6.1.1, fun M7 e7 s7 => ?_⟩)
    subst e7
    have ff : Fr (fun a _ => a < 67) M (accM M6) := (((Fr.rf.wr (by decide)).wr (by decide)).tr f6).acc (by decide)
    have m7 : MI r sm s tx L ri si (accM M6) := hM.fc ff (fun a j z => z) s7
    show CM G Y_X12_row d [vA 67] (accM M6) _
    refine CM.of s7 ?_
    refine C_X12_row (B_X12_row_0 (by omega) s7 (fun N1 g1 k1 v2 ev2 N3 g3 k3 => ?_))
    have e8 : v2 = s 3 := by rw [ev2, g1, rd_wr, if_neg (by decide)]; exact m7.2.2.2.1.2.1
    subst e8
    refine ⟨⟨by omega, by omega⟩, fun _ N5 g5 k5 => ?_, fun z => absurd z w⟩
    have n5 : MI r sm (upF (upF s 3 0) 4 0) tx L ri si N5 := by rw [g5, g3, g1]; exact (m7.thr.w67 (Or.inl ⟨rfl, rfl, by decide, by decide⟩)).w67 (Or.inr (Or.inl ⟨rfl, rfl⟩))
    have fn : Fr KMd (accM M6) N5 := by rw [g5, g3, g1]; exact ((Fr.rf.wr ⟨by decide, by decide⟩).wr ⟨by decide, by decide⟩).wr ⟨by decide, by decide⟩
    refine rowM (s := upF s 3 0) (R := R) (M0 := accM M6) hd hb.1 hb.2.1 hV.1 (fun N6 n6 f6 hc => ?_) 134 0 r 0 0 N5 hR (by omega) (by decide) (by decide) (by decide) n5 fn (by omega)
    exact ⟨rfl, INV.mk' C6.acc (n6.telA hc.1) (f6.tel ⟨by decide, by decide⟩ (fun _ => ⟨by decide, by decide⟩)) (fun a j z => z)⟩
  · rw [e3] at w
    subst g3
    have m1 : MI r sm s tx L ri si (refM M (-6)) := hM.fc ((Fr.rf.wr (K := fun a _ => a < 67) (by decide)).wr (by decide)) (fun a j z => z) s3
    show CM G Y_X12_row d [vA 67] (refM M (-6)) _
    refine CM.of s3 ?_
    refine C_X12_row (B_X12_row_0 (by omega) s3 (fun N1 g1 k1 v2 ev2 N3 g3 k3 => ?_))
    have e8 : v2 = s 3 := by rw [ev2, g1, rd_wr, if_neg (by decide)]; exact m1.2.2.2.1.2.1
    subst e8
    refine ⟨⟨by omega, by omega⟩, fun z => absurd w z, fun _ N6 g6 k6 => ⟨rfl, ?_⟩⟩
    have n3 : MI r sm s tx L ri si N3 := by
      have := m1.thr (v := 0) |>.w67 (i := 3) (j := 8) (v := 0) (Or.inl ⟨rfl, rfl, by decide, by decide⟩)
      rw [upF_id w] at this
      rw [g3, g1]; exact this
    rw [g6]
    exact INV.mk' ((hC.ref (c := -6) (by decide)).up (by omega)) (n3.telR (by decide)) ((by rw [g3, g1]; exact (Fr.rf.wr ⟨by decide, by decide⟩).wr ⟨by decide, by decide⟩ : Fr KMd (refM M (-6)) N3).tel ⟨by decide, by decide⟩ (fun _ => ⟨by decide, by decide⟩)) (fun a j z => z)
end RW
