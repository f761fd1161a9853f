/-! ===== image and back ===== -/
section IMB
variable {G : GG} {d : Nat} {M M1 M4 : MM} {Q : PV → MM → Prop} {r : Int → Int} {sm : Int → LSm} {s s' tx : Int → Int} {L : List (Int × Int × Int)} {ri : Int → Int → Int} {si : Int → Int → LSm} {q k h : Int}
theorem X4_shp (n : Int) : ∀ i : Nat, i < 12 → ((((cl_X4 n).getD i dCe).1, ((cl_X4 n).getD i dCe).2.1) : Nat × Int) = shp (1 + (i : Int))
  | 0, _ => rfl | 1, _ => rfl | 2, _ => rfl | 3, _ => rfl | 4, _ => rfl | 5, _ => rfl | 6, _ => rfl | 7, _ => rfl | 8, _ => rfl | 9, _ => rfl | 10, _ => rfl | 11, _ => rfl
  | k + 12, h => absurd h (by omega)
theorem X4_ref (n : Int) : hRf.map (fun p => ((cl_X4 n).getD 0 dCe).2.2 p.1) = hRf.map (fun p => n + p.2) := rfl
theorem HS0_X4 {n : Int} {M0 : MM} (g : MEM n M0 (cl_X4 n) M) : HS0 M n := by
  refine ⟨g.1.1, Int.le_of_eq g.1.2.symm, fun i i0 i1 => ?_, fun p hp => ?_⟩
  · have e := g.2.2 i.toNat (by show i.toNat < 12; omega)
    rw [show n + (i.toNat : Int) = n + i by omega] at e
    rw [e.1, X4_shp n i.toNat (by omega), show (1 : Int) + (i.toNat : Int) = 1 + i by omega]
  · rw [g.r 0 (Int.add_zero n).symm (Nat.le_of_ble_eq_true rfl)]
    exact map_mem (X4_ref n) p hp
theorem h6_of (hM : MI r sm s tx L ri si M) : ∀ k' : Int, (k' = 0 ∨ k' = 1) → s (20 + k') = 1 → ri k' 1 ≤ 6 := fun k' hk' w => by
  have hri := ((hM.2.2.2.2.2.2.1 k' hk').2 w).2.1
  obtain ⟨_, _, _, _, _, _, _, _, _, _, _, x6, _⟩ := hri
  exact x6
theorem img_fin (hk : k = 0 ∨ k = 1) (g : Img k h M M4) (hC : CI q r sm s tx L ri si M) (hM : MI r sm s tx L ri si M) (s4 : Sh (accM M4)) (hd : 60 ≤ d) : CM G Y_X12_image d [vA 67, vI k] (accM M4) (rI (fun v' M2 => v' = 0 ∧ INV (q + 1) M2)) := by
  have C4 := (g.ci hk hC (h6_of hM)).acc.up (q' := q + 1) (by omega)
  have h94 := g.2.2.1.2.1
  have m4 : MI r sm s tx L ri si (accM M4) := hM.cls s4 (fun a j a0 a1 => by
    show rd (wr M4 0 7 0) a j = rd M a j
    rw [rd_wr, if_neg (by omega)]
    exact g.2.1 a j (by have := g.2.2.2.2.2.2.2.2; omega) (by omega) (by omega))
  refine CM.of s4 ?_
  refine C_X12_image (B_X12_image_0 (by omega) s4 (fun M1 e1 s1 => ⟨⟨by omega, by omega⟩, fun _ => ?_, fun w => absurd (by omega) w⟩))
  have m1 : MI r sm s tx L ri si M1 := by rw [e1]; exact m4.thr
  refine im_loop (M := M1) (by omega) (by omega) (by omega) (fun M' s' f' c' sw => ?_) 5460 0 M1 rfl (Int.le_refl _) s1 Fr.rf (fun i i0 i1 => by omega)
  refine ⟨rfl, INV.mk' (K := KMd) C4 ((m1.img hk f' c' sw).telA (v := 0) (Int.le_refl _)) ?_ (fun a j z => z)⟩
  have f1 : Fr KMd (accM M4) M1 := by rw [e1]; exact Fr.rf.wr ⟨by decide, by decide⟩
  exact ((f1.tr (f'.mono (fun a j z => ⟨by omega, by omega⟩))).wr ⟨by decide, by decide⟩).tel ⟨by decide, by decide⟩ (fun j => ⟨by decide, by decide⟩)
theorem P_image {x1 : Int} (h1 : inR x1) (h : INV q M) (hd : 60 ≤ d) : PR G d 12 63 Y_X11_image Y_X12_image [vI x1] q M := by
  obtain ⟨r, sm, s, tx, L, ri, si, hC, hM⟩ := h
  unfold PR
  have hp := hC.2.2.2.2.1
  have hS := hC.1.1
  have n94 := hS.1
  have h13 : rd M 1 13 = 0 ∨ rd M 1 13 = 1 := by
    have e := hC.1.2.1.1.1.2.2.2.2.2.2.2.2.2.1
    by_cases w : r 5 = -1
    · rw [if_pos w] at e; exact Or.inl e
    · rw [if_neg w] at e; exact Or.inr e
  refine C_X11_image (B_X11_image_0 (by omega) hS ⟨h1, fun c M10 e10 s10 => ?_, fun c => ⟨by omega, by omega, fun w => ?_, fun w M16 e16 s16 => ⟨by omega, ?_⟩⟩⟩)
  · subst e10
    show CM G Y_X12_image d [vA 67, vI x1] (refM M (-1)) _
    refine CM.of s10 ?_
    refine C_X12_image (B_X12_image_0 (by omega) s10 (fun M1 e1 s1 => ⟨h1, fun w => by omega, fun _ M3 e3 s3 => ?_⟩))
    subst e1 e3
    exact ⟨rfl, fin_ref hC hM (Or.inl rfl)⟩
  · have hk : x1 = 0 ∨ x1 = 1 := by omega
    rcases hp.2.1 x1 hk with y | ⟨y1, y2, y3⟩
    · exact absurd y w
    refine ⟨y2.o, T_becomes ⟨y2, HS0_1 hS, Or.inr (by omega)⟩ h13 (fun x x0 x6 => (hp.1 x x0 x6).imp id (fun z => z.1)) (by omega) (fun M14 S => ?_)⟩
    have s14 : Sh M14 := Sh_hi hS (Int.le_of_eq S.1.1.symm) (fun b _ _ => S.1.2 b) (fun a j w _ => S.2.1 a j (by omega))
    have y22 := y2.2.1
    refine ⟨s14, fun M15 e15 s15 => ?_⟩
    subst e15
    have g : Img x1 (rd M 13 x1) M M14 := ⟨⟨Int.le_of_eq S.1.1.symm, fun b _ _ => S.1.2 b⟩, fun a j _ w2 _ => S.2.1 a j w2, ⟨S.2.1 13 x1 (by omega), y1, ⟨y2.1, by rw [S.1.1]; exact y2.2.1, fun i i0 i1 => by rw [S.1.2]; exact y2.2.2.1 i i0 i1, S.2.2.1⟩⟩, S.2.2.2.1, fun i i0 i1 => S.2.2.2.2 i i0 i1, fun ob hob => ⟨fun z => hob.2.2.1 ⟨x1, hk, w, z.1, z.2⟩, fun i i0 i1 z => (hob.2.2.2 i i0 i1).2.2 ⟨x1, hk, w, z.1, z.2⟩⟩, fun k' hk' ne w' => by
      rcases hk with e | e
      · have e' : k' = 1 := by omega
        rw [e] at w ⊢; rw [e'] at w' ⊢
        exact hp.2.2 w w'
      · have e' : k' = 0 := by omega
        rw [e] at w ⊢; rw [e'] at w' ⊢
        exact (hp.2.2 w' w).symm, s14, n94⟩
    exact img_fin hk g hC hM s15 hd
  · have hk : x1 = 0 ∨ x1 = 1 := by omega
    refine T_X4_init (n := mN M) (M0 := M) (by omega) ((MEM.nil (by omega)).al e16 rfl) (fun M18 g18 => ?_)
    have n18 : mN M18 = mN M + 12 := g18.1.2
    have hs18 := HS0_X4 g18
    have s18 : Sh M18 := Sh_hi hS (by omega) (fun b _ b1 => (g18.2.1 b b1).1) (fun a j w _ => (g18.2.1 a (by omega)).2 j)
    refine ⟨s18, hs18.o, fun M19 e19 s19 => ?_⟩
    have r13 : rd M19 13 x1 = mN M := by rw [e19, rd_wr, if_pos ⟨rfl, rfl⟩]
    have n19 : mN M19 = mN M + 12 := by rw [e19, mN_wr]; exact n18
    have lo : ∀ a j, a < mN M → ¬ (a = 13 ∧ j = x1) → rd M19 a j = rd M a j := fun a j w w2 => by rw [e19, rd_wr, if_neg w2]; exact (g18.2.1 a w).2 j
    have hi : ∀ a j, mN M ≤ a → rd M19 a j = rd M18 a j := fun a j w => by rw [e19, rd_wr, if_neg (by omega)]
    have tT : ∀ b, b < mN M → mT M19 b = mT M b := fun b w => by rw [e19, mT_wr]; exact (g18.2.1 b w).1
    have hs19 : HS0 M19 (mN M) := ⟨hs18.1, by omega, fun i i0 i1 => by rw [e19, mT_wr]; exact hs18.2.2.1 i i0 i1, fun p hp => by rw [hi _ _ (Int.le_refl _)]; exact hs18.2.2.2 p hp⟩
    rw [r13]
    refine ⟨hs19.o, T_becomes ⟨hs19, HS0_1 s19, Or.inr (by omega)⟩ (by rw [lo 1 13 (by omega) (by omega)]; exact h13) (fun x x0 x6 => ?_) (by omega) (fun M22 S => ?_)⟩
    · rw [show (1 : Int) + 8 = 9 from rfl, lo 9 x (by omega) (by omega)]
      exact (hp.1 x x0 x6).imp id (fun z => ⟨z.1.1, by have := z.1.2.1; omega, by rw [tT _ z.1.2.1]; exact z.1.2.2⟩)
    have s22 : Sh M22 := Sh_hi s19 (Int.le_of_eq S.1.1.symm) (fun b _ _ => S.1.2 b) (fun a j w _ => S.2.1 a j (by omega))
    refine ⟨s22, fun M23 e23 s23 => ?_⟩
    subst e23
    have n22 := S.1.1
    have g : Img x1 (mN M) M M22 := ⟨⟨by omega, fun b _ b1 => by rw [S.1.2, tT b b1]⟩, fun a j w1 w2 w3 => by rw [S.2.1 a j w2]; exact lo a j w1 w3, ⟨by rw [S.2.1 13 x1 (by omega)]; exact r13, n94, ⟨hs19.1, by omega, fun i i0 i1 => by rw [S.1.2]; exact hs19.2.2.1 i i0 i1, S.2.2.1⟩⟩, fun j hj => by rw [S.2.2.2.1 j hj]; exact lo 1 j (by omega) (by omega), fun i i0 i1 j j0 j1 => by rw [S.2.2.2.2 i i0 i1 j j0 j1]; exact lo _ _ (by omega) (by omega), fun ob hob => ⟨by have := hob.1.2.1; omega, fun i i0 i1 => by have := (hob.2.2.2 i i0 i1).2.1; omega⟩, fun k' hk' ne w' => by
      rcases hp.2.1 k' hk' with y | ⟨y1, y2, y3⟩
      · exact absurd y w'
      · exact Or.inr y2.2.1, s22, n94⟩
    exact img_fin hk g hC hM s23 hd
/-! ===== back ===== -/
theorem bk_loop (k0 : 0 ≤ k) (k1 : k ≤ 1) (hd : 2 ≤ d) (h : ∀ M', Sh M' → Fr (fun a j => a = 69 ∧ 0 ≤ j ∧ j < 5460) M M' → (∀ i : Int, 0 ≤ i → i < 5460 → rd M' 69 i = rd M 70 (5460 * k + i)) → Q (vI 0) (telM M' 0)) : ∀ (m : Nat) (x : Int) (M' : MM), (m : Int) = 5460 - x → 0 ≤ x → Sh M' → Fr (fun a j => a = 69 ∧ 0 ≤ j ∧ j < 5460) M M' → (∀ i : Int, 0 ≤ i → i < x → rd M' 69 i = rd M 70 (5460 * k + i)) → X G Y_X12_back d 0 0 39 [vA 67, vI k, vI x] [] M' Q := by
  intro m
  induction m with
  | zero =>
    intro x M' hm x0 hS f c
    refine B_X12_back_39 hd hS ⟨⟨by omega, by omega⟩, fun _ M2 e2 s2 => ?_, fun w => by omega⟩
    subst e2
    exact h M' hS f (fun i i0 i1 => c i i0 (by omega))
  | succ m ih =>
    intro x M' hm x0 hS f c
    refine B_X12_back_39 hd hS ⟨⟨by omega, by omega⟩, fun w => by omega, fun w => ⟨by omega, by omega, x0, w, fun M7 e7 s7 => ?_⟩⟩
    refine ih (x + 1) M7 (by omega) (by omega) s7 (by rw [e7]; exact f.wr ⟨rfl, by omega, by omega⟩) (fun i i0 i1 => ?_)
    rw [e7, rd_wr]
    by_cases y : i = x
    · rw [if_pos ⟨rfl, y⟩, y]; exact f.2.2 70 _ (by omega)
    · rw [if_neg (by omega)]; exact c i i0 (by omega)
def Kq (M M' : MM) : Prop := mN M' = mN M ∧ (∀ b, mT M' b = mT M b) ∧ ∀ a j, (a = 13 ∨ 94 ≤ a) → rd M' a j = rd M a j
theorem inZ.kq (h : Kq M M1) {a : Int} (z : inZ M1 a) : inZ M a := by
  obtain ⟨k, a1, a2, a3, a4⟩ := z
  have e := h.2.2 13 k (Or.inl rfl)
  exact ⟨k, a1, by rw [← e]; exact a2, by rw [← e]; exact a3, by rw [← e]; exact a4⟩
theorem LwO.kq (h : Kq M M1) {ob : Int} (g : LwO M ob) : LwO M1 ob := by
  obtain ⟨g1, g2, g3, g4⟩ := g
  refine ⟨⟨g1.1, by rw [h.1]; exact g1.2.1, by rw [h.2.1]; exact g1.2.2⟩, g2, fun w => g3 (inZ.kq h w), fun i i0 i1 => ?_⟩
  rw [h.2.2 ob i (Or.inr g2), h.1]
  exact ⟨(g4 i i0 i1).1, (g4 i i0 i1).2.1, fun w => (g4 i i0 i1).2.2 (inZ.kq h w)⟩
theorem CLaw.kq (h : Kq M M1) {ob : Int} {L : LSm} (g : CLaw M ob L) : CLaw M1 ob L :=
  g.fr (Int.le_of_eq h.1.symm) (fun b _ _ => h.2.1 b) (fun j => h.2.2 _ _ (Or.inr g.1)) (fun j => h.2.2 _ _ (Or.inr g.2.2.1)) (fun j => h.2.2 _ _ (Or.inr g.2.2.2.1)) (fun j => h.2.2 _ _ (Or.inr g.2.2.2.2.1))
theorem HP.kq (h : Kq M M1) (h9 : AllL M1 9) (g : HP M) : HP M1 := by
  refine ⟨h9, fun k hk => ?_, fun a b => ?_⟩
  · rw [h.2.2 13 k (Or.inl rfl)]
    rcases g.2.1 k hk with w | ⟨w1, w2, w3⟩
    · exact Or.inl w
    · refine Or.inr ⟨w1, ⟨w2.1, by rw [h.1]; exact w2.2.1, fun i i0 i1 => by rw [h.2.1]; exact w2.2.2.1 i i0 i1, fun p hp => by rw [h.2.2 _ _ (Or.inr w1)]; exact w2.2.2.2 p hp⟩, fun l l0 l1 => ?_⟩
      rw [h.2.2 _ l (Or.inr (by omega))]
      exact (w3 l l0 l1).imp id (fun w => w.kq h)
  · rw [h.2.2 13 0 (Or.inl rfl)] at a ⊢
    rw [h.2.2 13 1 (Or.inl rfl)] at b ⊢
    exact g.2.2 a b
theorem IM.kq (h : Kq M M1) (hp : HP M) (g : IM s ri si M) : IM s ri si M1 := fun k hk => by
  rw [h.2.2 13 k (Or.inl rfl)]
  rcases g k hk with w | ⟨w1, w2, w3, w4⟩
  · exact Or.inl w
  · have h94 : 94 ≤ rd M 13 k := by
      rcases hp.2.1 k hk with z | z
      · exact absurd z w2
      · exact z.1
    refine Or.inr ⟨w1, w2, w3.cp (fun i j i0 i1 => h.2.2 _ _ (Or.inr (by omega))), fun l l0 l1 => ?_⟩
    rw [h.2.2 _ l (Or.inr (by omega))]
    exact (w4 l l0 l1).kq h
theorem Sh_bec (hS : Sh M) {h : Int} {k : Int} (S : BSt 1 h k M M1) : Sh M1 := ⟨by rw [S.1.1]; exact hS.1, fun a a0 a1 => by rw [S.1.2]; exact hS.2.1 a a0 a1, fun p hp => by
  by_cases e : p.1 = 1
  · have w := S.2.2.1 _ ((by decide : ∀ p ∈ refL, p.1 = 1 → (p.2.1, p.2.2 - 1) ∈ hRf) p hp e)
    rw [e]
    have w' : rd M1 1 p.2.1 = 1 + (p.2.2 - 1) := w
    omega
  · have w := (by decide : ∀ p ∈ refL, p.1 = 1 ∨ p.1 < 1 ∨ 13 ≤ p.1) p hp
    rw [S.2.1 _ _ (by omega)]; exact hS.2.2 p hp⟩
theorem P_back {x1 : Int} (h1 : inR x1) (hq : 0 ≤ q ∧ q ≤ 1000) (h : INV q M) (hd : 60 ≤ d) : PR G d 0 0 Y_X11_back Y_X12_back [vI x1] q M := by
  obtain ⟨r, sm, s, tx, L, ri, si, hC, hM⟩ := h
  unfold PR
  have hp := hC.2.2.2.2.1
  have hS := hC.1.1
  have hIM := hC.2.2.2.2.2
  have n94 := hS.1
  have h9t := hC.2.2.1
  refine C_X11_back (B_X11_back_0 (by omega) hS ⟨h1, fun c M10 e10 s10 => ?_, fun c => ⟨by omega, by omega, fun w => ?_, fun w M16 e16 s16 => ?_⟩⟩)
  · subst e10
    show CM G Y_X12_back d [vA 67, vI x1] (refM M (-1)) _
    refine CM.of s10 ?_
    refine C_X12_back (B_X12_back_0 (by omega) s10 (fun M1 e1 s1 => ⟨h1, fun w => by omega, fun _ M3 e3 s3 => ?_⟩))
    subst e1 e3
    exact ⟨rfl, fin_ref hC hM (Or.inl rfl)⟩
  · have hk : x1 = 0 ∨ x1 = 1 := by omega
    rcases hp.2.1 x1 hk with y | ⟨y1, y2, y3⟩
    · exact absurd y w
    rcases hIM x1 hk with z | ⟨z1, z2, z3, z4⟩
    · exact absurd z.2 w
    have hm := hM.2.2.2.2.2.2.1 x1 hk
    obtain ⟨m1, m2, m3, m4⟩ := hm.2 z1
    have r6 := h6_of hM x1 hk z1
    have h13 : rd M (rd M 13 x1) 13 = 0 ∨ rd M (rd M 13 x1) 13 = 1 := by
      have e := z3.2.2.2.2.2.2.2.2.2.1
      by_cases w : ri x1 5 = -1
      · rw [if_pos w] at e; exact Or.inl e
      · rw [if_neg w] at e; exact Or.inr e
    refine T_becomes ⟨HS0_1 hS, y2, Or.inl (by omega)⟩ h13 (fun x x0 x6 => (y3 x x0 x6).imp id (fun z => z.1)) (by omega) (fun M13 S => ?_)
    have s13 := Sh_bec hS S
    have f : Fr (fun a _ => 1 ≤ a ∧ a < 13) M M13 := ⟨S.1.1, S.1.2, fun a j w => S.2.1 a j (by omega)⟩
    have kq13 : Kq M M13 := ⟨S.1.1, S.1.2, fun a j w => S.2.1 a j (by omega)⟩
    have r9 : ∀ l : Int, 0 ≤ l → l < 6 → rd M13 9 l = rd M (rd M 13 x1 + 8) l := fun l l0 l1 => S.2.2.2.2 8 (by decide) (by decide) l l0 (by show l < 6; exact l1)
    have hO : COK M13 (ri x1) (si x1) := ⟨HRg_cpy S.2.2.2.1 (fun i i0 i1 => S.2.2.2.2 i i0 i1) z3, m2, fun l l0 l1 => by
      rw [r9 l l0 (by omega)]
      exact (z4 l l0 l1).kq kq13⟩
    have e32 : rd M13 32 9 = rd M 32 9 := f.2.2 32 9 (by decide)
    refine ⟨s13, T_X6_lawsChanged (hC.1.pw.fr f (fun a j z => by omega) s13) hO (by rw [e32]; omega) (by omega) (fun M14 hP' f' a9 => ⟨hP'.1, fun M15 e15 s15 => ?_⟩)⟩
    subst e15
    have e : ∀ a j, (a = 0 ∨ a = 13 ∨ a = 14 ∨ a = 15 ∨ a = 20 ∨ 51 ≤ a ∨ (a = 44 ∧ j = 9)) → rd M14 a j = rd M a j := fun a j w => by
      rw [f'.2.2 a j (by unfold KV; omega)]
      exact f.2.2 a j (by omega)
    have kq : Kq M M14 := ⟨f'.1.trans f.1, fun b => (f'.2.1 b).trans (f.2.1 b), fun a j w => e a j (by omega)⟩
    have C14 : CI (q + 1) (ri x1) (si x1) s tx L ri si M14 := by
      obtain ⟨a1, ⟨b1, b2, b3, b4, b5, b6, b7⟩, c1, d1, e1, f1⟩ := hC
      refine ⟨hP', ⟨fun j => by rw [e 14 j (by omega)]; exact b1 j, by rw [e 0 _ (by omega)]; exact b2, by rw [e 0 _ (by omega)]; exact b3, by rw [e 0 _ (by omega)]; exact b4, by rw [e 0 _ (by omega)]; exact b5, fun i i0 i1 => by rw [e 15 _ (by omega)]; exact b6 i i0 i1, by rw [e 20 _ (by omega)]; exact b7⟩, ⟨by rw [a9, e32]; omega, by rw [e 44 9 (by omega)]; omega⟩, d1.eq (e 59 7 (by omega)) (fun a j w => e a j (by omega)), e1.kq kq (fun l l0 l1 => ?_), f1.kq kq e1⟩
      rw [f'.2.2 9 l (by unfold KV; omega), r9 l l0 l1]
      exact (y3 l l0 l1).imp id (fun z => z.kq kq)
    have mm : MI r sm s tx L ri si (accM M14) := hM.cls s15 (fun a j a0 a1 => by
      show rd (wr M14 0 7 0) a j = rd M a j
      rw [rd_wr, if_neg (by omega)]
      exact e a j (by omega))
    show CM G Y_X12_back d [vA 67, vI x1] (accM M14) _
    refine CM.of s15 ?_
    refine C_X12_back (B_X12_back_0 (by omega) s15 (fun M1 e1 s1 => ?_))
    have mt : MI r sm s tx L ri si M1 := by rw [e1]; exact mm.thr
    have w71 : rd M1 71 x1 = 1 := by rw [(mt.2.2.2.2.2.2.1 x1 hk).1, z1]
    rw [w71]
    refine ⟨h1, fun _ => ⟨by omega, by omega, ⟨by decide, by decide⟩, fun _ => ?_, fun w => absurd w (by decide)⟩, fun w => absurd (by omega) w⟩
    refine bk_loop (M := M1) (by omega) (by omega) (by omega) (fun M' s' f'' c' => ?_) 5460 0 M1 rfl (Int.le_refl _) s1 Fr.rf (fun i i0 i1 => by omega)
    have er : rd M' 69 = ri x1 := funext fun i => by
      by_cases w : 0 ≤ i ∧ i < 5460
      · rw [c' i w.1 w.2]; exact ((mt.2.2.2.2.2.2.1 x1 hk).2 z1).1 i w.1 w.2
      · rw [f''.2.2 69 i (by omega), mt.2.1, mt.2.2.2.2.2.2.2.1 i (by omega), m4 i (by omega)]
    have mr := mt.row (f''.mono (fun a j z => z.1)) s' (by rw [er]; exact m2) (sm' := si x1) (by rw [er]; exact m3) (by rw [er]; exact m4)
    rw [er] at mr
    refine ⟨rfl, INV.mk' (K := KMd) C14.acc (mr.telA (v := 0) (Int.le_refl _)) ?_ (fun a j z => z)⟩
    have g1 : Fr KMd (accM M14) M1 := by rw [e1]; exact Fr.rf.wr ⟨by decide, by decide⟩
    exact (g1.tr (f''.mono (fun a j z => ⟨by omega, by omega⟩))).tel ⟨by decide, by decide⟩ (fun j => ⟨by decide, by decide⟩)
  · subst e16
    have hk : x1 = 0 ∨ x1 = 1 := by omega
    have w' : rd M 13 x1 = -1 := Classical.not_not.mp w
    have mm : MI r sm s tx L ri si (refM M (-2)) := hM.fc ((Fr.rf.wr (K := fun a _ => a < 67) (by decide)).wr (by decide)) (fun a j z => z) s16
    show CM G Y_X12_back d [vA 67, vI x1] (refM M (-2)) _
    refine CM.of s16 ?_
    refine C_X12_back (B_X12_back_0 (by omega) s16 (fun M1 e1 s1 => ?_))
    have w71 : rd M1 71 x1 = 0 := by
      rw [e1, rd_wr, if_neg (by omega), (mm.2.2.2.2.2.2.1 x1 hk).1]
      rcases hIM x1 hk with z | z
      · exact z.1
      · exact absurd w' z.2.1
    rw [w71]
    refine ⟨h1, fun _ => ⟨by omega, by omega, ⟨by decide, by decide⟩, fun w => absurd rfl w, fun _ M6 e6 s6 => ?_⟩, fun w => absurd (by omega) w⟩
    subst e1 e6
    exact ⟨rfl, fin_ref hC hM (Or.inr (Or.inl rfl))⟩
end IMB
