/-! ===== pairs of calls: scenes, book, heads, tape ===== -/
theorem wr_comm {M : MM} {a i v b j w : Int} (h : ¬ (a = b ∧ i = j)) : wr (wr M a i v) b j w = wr (wr M b j w) a i v := by
  refine Prod.ext rfl (Prod.ext rfl ?_)
  funext c k
  show (if c = b ∧ k = j then w else if c = a ∧ k = i then v else M.2.2 c k) = if c = a ∧ k = i then v else if c = b ∧ k = j then w else M.2.2 c k
  by_cases x : c = b ∧ k = j
  · rw [if_pos x, if_neg (fun y => h ⟨y.1.symm.trans x.1, y.2.symm.trans x.2⟩), if_pos x]
  · rw [if_neg x]
    by_cases y : c = a ∧ k = i
    · rw [if_pos y, if_pos y]
    · rw [if_neg y, if_neg y, if_neg x]
theorem upF_up {f : Int → Int} {i a b : Int} : upF (upF f i a) i b = upF f i b := by
  funext k
  unfold upF
  by_cases x : k = i
  · rw [if_pos x, if_pos x]
  · rw [if_neg x, if_neg x, if_neg x]
theorem upF_id {f : Int → Int} {i a : Int} (h : f i = a) : upF f i a = f := by
  funext k
  unfold upF
  by_cases x : k = i
  · rw [if_pos x, x, h]
  · rw [if_neg x]
theorem Fr_wr2 {K : Int → Int → Prop} {M0 M : MM} {a i v : Int} (f : Fr K M0 M) : Fr K (wr M0 a i v) (wr M a i v) := ⟨f.1, f.2.1, fun b j w => by
  rw [rd_wr, rd_wr]
  split
  · rfl
  · exact f.2.2 b j w⟩
/-- the row with a scene more -/
def adR (r : Int → Int) (a b c : Int) : Int → Int := upF (upF (upF (upF r (10 + 3 * r 0) a) (10 + 3 * r 0 + 1) b) (10 + 3 * r 0 + 2) c) 0 (r 0 + 1)
section AD
variable {G : GG} {d : Nat} {M : MM} {Q : PV → MM → Prop} {r : Int → Int} {sm : Int → LSm} {s tx : Int → Int} {L : List (Int × Int × Int)} {ri : Int → Int → Int} {si : Int → Int → LSm} {q : Int} {a b c : Int}
theorem adR_RS (hV : RS r) (h5 : r 0 < 5) (ha : 1 ≤ a ∧ a ≤ 60) (hb : 0 ≤ b ∧ b ≤ 31) (hc : 0 ≤ c ∧ c ≤ 1) : RS (upF r (10 + 3 * r 0) a) ∧ RS (upF (upF r (10 + 3 * r 0) a) (10 + 3 * r 0 + 1) b) ∧ RS (upF (upF (upF r (10 + 3 * r 0) a) (10 + 3 * r 0 + 1) b) (10 + 3 * r 0 + 2) c) ∧ RS (adR r a b c) := by
  have h0 := hV.1
  have R1 : RS (upF r (10 + 3 * r 0) a) := by have := RS_put (x1 := r 0) (x2 := 0) (x3 := a) hV (by omega) (by omega); rwa [Int.add_zero] at this
  have R2 : RS (upF (upF r (10 + 3 * r 0) a) (10 + 3 * r 0 + 1) b) := RS_put (x1 := r 0) (x2 := 1) (x3 := b) R1 (by omega) (by omega)
  have R3 : RS (upF (upF (upF r (10 + 3 * r 0) a) (10 + 3 * r 0 + 1) b) (10 + 3 * r 0 + 2) c) := RS_put (x1 := r 0) (x2 := 2) (x3 := c) R2 (by omega) (by omega)
  have z0 : upF (upF (upF r (10 + 3 * r 0) a) (10 + 3 * r 0 + 1) b) (10 + 3 * r 0 + 2) c 0 = r 0 := by rw [upF_ne (by omega), upF_ne (by omega), upF_ne (by omega)]
  exact ⟨R1, R2, R3, R3.up (fun _ => by rw [z0]; omega) (by omega) (by omega) ⟨by omega, by omega, by omega⟩ (by omega) (by omega) ⟨by omega, by omega⟩ ⟨by omega, by omega, by omega⟩⟩
theorem adR_0 : adR r a b c 0 = r 0 + 1 := upF_eq
theorem T_X4_add (hO : COK M r sm) (hS : Sh M) (h5 : r 0 < 5) (ha : 1 ≤ a ∧ a ≤ 60) (hb : 0 ≤ b ∧ b ≤ 31) (hc : 0 ≤ c ∧ c ≤ 1) (hd : 1 ≤ d) (h : ∀ M', COK M' (adR r a b c) sm → Sh M' → Fr (fun x _ => 1 ≤ x ∧ x ≤ 4) M M' → Q vU M') : C G Y_X4_addScene d 0 0 [vA 1, vI a, vI b, vI c] M Q := by
  have hV := hO.2.1
  have h0 := hV.1
  have e0 : rd M 1 0 = r 0 := hO.1.1
  obtain ⟨R1, R2, R3, R4⟩ := adR_RS hV h5 ha hb hc
  have K1 : COK (wr M 2 (r 0) a) (upF r (10 + 3 * r 0) a) sm := by
    have := COK_wr (v := a) hO (cor_put (w := 0) (c := 2) (i := r 0) (Or.inl ⟨rfl, rfl⟩) h0 h5) (by omega) (by rw [Int.add_zero]; exact R1)
    rwa [Int.add_zero] at this
  have K2 := COK_wr (v := b) K1 (cor_put (w := 1) (c := 3) (i := r 0) (Or.inr (Or.inl ⟨rfl, rfl⟩)) h0 h5) (by omega) R2
  have K3 := COK_wr (v := c) K2 (cor_put (w := 2) (c := 4) (i := r 0) (Or.inr (Or.inr ⟨rfl, rfl⟩)) h0 h5) (by omega) R3
  have K4 := COK_wr (v := r 0 + 1) K3 (c := 1) (i := 0) (k := 0) (Or.inl ⟨rfl, rfl, rfl⟩) (by decide) R4
  refine C_X4_addScene (B_X4_addScene_0 hd hS ⟨by omega, by omega, fun M3 e3 s3 => ?_⟩)
  rw [e0] at e3
  have z3 : rd M3 1 0 = r 0 := by rw [e3, rd_wr, if_neg (by omega)]; exact e0
  refine ⟨by omega, by omega, fun M6 e6 s6 => ?_⟩
  rw [z3] at e6
  have z6 : rd M6 1 0 = r 0 := by rw [e6, rd_wr, if_neg (by omega)]; exact z3
  refine ⟨by omega, by omega, fun M9 e9 s9 M10 e10 s10 => ?_⟩
  rw [z6] at e9
  have z9 : rd M9 1 0 = r 0 := by rw [e9, rd_wr, if_neg (by omega)]; exact z6
  rw [z9] at e10
  subst e10 e9 e6 e3
  exact h _ K4 s10 ((((Fr.rf.wr (K := fun x _ => 1 ≤ x ∧ x ≤ 4) (by decide)).wr (by decide)).wr (by decide)).wr (by decide))
theorem T_add12 (hM : MI r sm s tx L ri si M) (h5 : r 0 < 5) (ha : 1 ≤ a ∧ a ≤ 60) (hb : 0 ≤ b ∧ b ≤ 31) (hc : 0 ≤ c ∧ c ≤ 1) (hd : 1 ≤ d) (h : ∀ M', MI (adR r a b c) sm s tx L ri si M' → Fr KMd M M' → Q vU M') : C G Y_X12_addScene d 0 0 [vA 67, vI a, vI b, vI c] M Q := by
  have hV := hM.2.2.1.1
  have h0 := hV.1
  obtain ⟨R1, R2, R3, R4⟩ := adR_RS hV h5 ha hb hc
  have e0 : rd M 69 0 = r 0 := by rw [hM.2.1]
  refine C_X12_addScene (B_X12_addScene_0 hd hM.1 (fun v1 e1 => ⟨by omega, by omega, fun M4 e4 s4 => ⟨by omega, by omega, fun M7 e7 s7 => ⟨by omega, by omega, fun M10 e10 s10 M11 e11 s11 => ?_⟩⟩⟩))
  rw [e0] at e1
  subst e1
  have m1 := hM.rw (k := 10 + 3 * r 0) (v := a) (by omega) R1
  have m2 := m1.rw (k := 10 + 3 * r 0 + 1) (v := b) (by omega) R2
  have m3 := m2.rw (k := 10 + 3 * r 0 + 2) (v := c) (by omega) R3
  have m4 := m3.rw (k := 0) (v := r 0 + 1) (by decide) R4
  have z : rd M10 69 0 = r 0 := by rw [e10, rd_wr, if_neg (by omega), e7, rd_wr, if_neg (by omega), e4, rd_wr, if_neg (by omega)]; exact e0
  rw [z] at e11
  subst e11 e10 e7 e4
  exact h _ m4 ((((Fr.rf.wr (K := KMd) ⟨by decide, by decide⟩).wr ⟨by decide, by decide⟩).wr ⟨by decide, by decide⟩).wr ⟨by decide, by decide⟩)
end AD
section PC4
variable {G : GG} {d : Nat} {M : MM} {q : Int}
theorem P_scene {x1 x2 x3 : Int} (h1 : inR x1) (h2 : inR x2) (h3 : inR x3) (hq : 0 ≤ q ∧ q ≤ 1000) (h : INV q M) (hd : 60 ≤ d) : PR G d 0 0 Y_X11_scene Y_X12_scene [vI x1, vI x2, vI x3] q M := by
  obtain ⟨r, sm, s, tx, L, ri, si, hC, hM⟩ := h
  unfold PR
  have hO := hC.1.2.1.1
  have hV := hM.2.2.1.1
  have h0 := hV.1
  have h5 := hV.2.1
  have e0 : rd M 1 0 = r 0 := hO.1.1
  have R : ∀ cd, (cd = -1 ∧ ¬ coBe (r 0) x1 x2 x3) ∨ (cd = -5 ∧ coBe (r 0) x1 x2 x3 ∧ r 0 = 5) → CM G Y_X12_scene d [vA 67, vI x1, vI x2, vI x3] (refM M cd) (rI (fun v' M2 => v' = cd ∧ INV (q + 1) M2)) := by
    intro cd c
    have sR : Sh (refM M cd) := sRef hC.1.1
    have hM1 : MI r sm s tx L ri si (refM M cd) := hM.fc ((Fr.rf.wr (K := fun a _ => a < 67) (by decide)).wr (by decide)) (fun a j z => z) sR
    have z0 : rd (wr (refM M cd) 67 0 0) 69 0 = r 0 := by rw [rd_wr, if_neg (by decide), hM1.2.1]
    have F1 : ∀ M5, cd = -1 → M5 = telM (wr (refM M cd) 67 0 0) (-1) → (-1 = cd ∧ INV (q + 1) M5) := fun M5 w e => by subst w; subst e; exact ⟨rfl, fin_ref hC hM (Or.inl rfl)⟩
    refine CM.of sR ?_
    refine C_X12_scene (B_X12_scene_0 (by omega) sR (fun M1 e1 s1 v2 ev => ?_))
    subst e1
    rw [z0] at ev
    subst ev
    refine ⟨⟨by omega, by omega⟩, h1, fun w M5 e5 _ => F1 M5 ?_ e5, fun w => ⟨h2, fun w2 M7 e7 _ => F1 M7 ?_ e7, fun w2 => ⟨h3, fun w3 => ⟨fun w4 => ?_, fun w4 M12 e12 _ => ?_⟩, fun w3 M13 e13 _ => F1 M13 ?_ e13⟩⟩⟩
    · rcases c with c | c
      · exact c.1
      · exact absurd c.2.1 (by unfold fitM at w; unfold coBe; omega)
    · rcases c with c | c
      · exact c.1
      · exact absurd c.2.1 (by unfold fitM at w2; unfold coBe; omega)
    · rcases c with c | c
      · exact absurd (by unfold fitM at w w2 w3; unfold coBe; omega) c.2
      · exact absurd c.2.2 w4
    · rcases c with c | c
      · exact absurd (by unfold fitM at w w2 w3; unfold coBe; omega) c.2
      · obtain ⟨c, -⟩ := c
        subst c; subst e12
        exact ⟨rfl, fin_ref hC hM (by decide)⟩
    · rcases c with c | c
      · exact c.1
      · exact absurd c.2.1 (by unfold fitM at w3; unfold coBe; omega)
  refine C_X11_scene (B_X11_scene_0 (r := r) (by omega) hC.1.1 ⟨hO.1, hV, h1, h2, h3, fun c => ⟨by rw [e0]; exact ⟨by omega, by omega⟩, fun c2 => ?_, fun c2 M10 e10 _ => ?_⟩, fun c M11 e11 _ => ?_⟩)
  · rw [e0] at c2
    have c' : (1 ≤ x1 ∧ x1 ≤ 60) ∧ (0 ≤ x2 ∧ x2 ≤ 31) ∧ (0 ≤ x3 ∧ x3 ≤ 1) := by unfold coBe at c; omega
    refine T_X4_add hO hC.1.1 (by omega) c'.1 c'.2.1 c'.2.2 (by omega) (fun M7 K7 s7 f7 => ⟨s7, ?_⟩)
    refine CI_lawsC (q := q) hC f7 (fun a j z => by omega) K7 s7 hq (by omega) (fun M8 C8 f8 => ⟨C8.1.1, fun M9 e9 s9 => ?_⟩)
    have e80 : rd M8 1 0 = r 0 + 1 := by rw [C8.1.2.1.1.1.1, adR_0]
    subst e9
    have hM1 : MI r sm s tx L ri si (accM M8) := hM.fc (f8.acc (by decide)) (fun a j z => z) s9
    have z0 : rd (wr (accM M8) 67 0 0) 69 0 = r 0 := by rw [rd_wr, if_neg (by decide), hM1.2.1]
    show CM G Y_X12_scene d [vA 67, vI x1, vI x2, vI x3] (accM M8) _
    refine CM.of s9 ?_
    refine C_X12_scene (B_X12_scene_0 (by omega) s9 (fun M1 e1 s1 v2 ev => ?_))
    subst e1
    rw [z0] at ev
    subst ev
    refine ⟨⟨by omega, by omega⟩, h1, fun w => absurd (by unfold fitM; omega) w, fun w => ⟨h2, fun w2 => absurd (by unfold fitM; unfold coBe at c; omega) w2, fun w2 => ⟨h3, fun w3 => ⟨fun w4 => ?_, fun w4 => absurd w4 c2⟩, fun w3 => absurd (by unfold fitM; omega) w3⟩⟩⟩
    refine T_add12 hM1.thr (by omega) c'.1 c'.2.1 c'.2.2 (by omega) (fun M9 m9 f9 => ⟨m9.1, ⟨by omega, by omega, by omega⟩, fun M11 e11 s11 => ?_⟩)
    subst e11
    exact ⟨by rw [e80]; omega, INV.mk' C8.acc (m9.telA h0) (((Fr.rf.wr (K := KMd) ⟨by decide, by decide⟩).tr f9).tel ⟨by decide, by decide⟩ (fun _ => ⟨by decide, by decide⟩)) (fun a j z => z)⟩
  · rw [e0] at c2
    subst e10
    exact R (-5) (Or.inr ⟨rfl, c, c2⟩)
  · subst e11
    exact R (-1) (Or.inl ⟨rfl, c⟩)
theorem P_tear (h : INV q M) (hd : 60 ≤ d) : PR G d 0 0 Y_X11_tear Y_X12_tear [] q M := by
  obtain ⟨r, sm, s, tx, L, ri, si, hC, hM⟩ := h
  unfold PR
  have hV := hM.2.2.1.1
  have e12 : rd M 1 12 = r 3 := hC.1.2.1.1.1.2.2.2.2.2.2.1
  have hr : RS (upF r 3 0) := hV.up (by omega) (by omega) (by omega) ⟨by omega, by omega, by omega⟩ (by omega) (by omega) ⟨fun t _ _ => by omega, fun _ => ⟨by decide, by decide, fun t a b => by omega, fun t u a b c => by omega⟩⟩ ⟨by omega, by omega, by omega⟩
  have hc : cor 1 12 3 := Or.inr (Or.inr (Or.inr (Or.inr (Or.inr (Or.inr (Or.inr (Or.inr (Or.inr (Or.inr (Or.inl ⟨rfl, rfl, rfl⟩))))))))))
  refine C_X11_tear (B_X11_tear_0 (by omega) hC.1.1 (fun v1 ev M2 e2 s2 M3 e3 s3 => ?_))
  have K2 : COK M2 (upF r 3 0) sm := by rw [e2]; exact COK_wr hC.1.2.1.1 hc (by decide) hr
  have f3 : Fr (fun a j => a = 1 ∨ (a = 39 ∧ j = 4)) M M3 := by rw [e3, e2]; exact (Fr.rf.wr (Or.inl rfl)).wr (Or.inr ⟨rfl, rfl⟩)
  have K3 : COK M3 (upF r 3 0) sm := by rw [e3]; exact K2.fr (Fr.rf.wr (K := fun a _ => a = 39) rfl) (fun a j z => by omega)
  have P3 : PL (upF r 3 0) sm M3 := PL_hs hC.1 ⟨⟨upF_ne (by decide), upF_ne (by decide), fun j j0 j1 => upF_ne (by omega), fun _ => rfl⟩, fun j j0 j1 => upF_ne (by omega)⟩ (fun a j w w2 => f3.2.2 a j (by omega)) s3 K3 (Or.inl (by rw [e3, rd_wr, if_pos ⟨rfl, rfl⟩]))
  have C3 : CI (q + 1) (upF r 3 0) sm s tx L ri si M3 := hC.to P3 f3 (fun a j z => by omega) (by rw [f3.2.2 32 9 (by omega), f3.2.2 44 9 (by omega)]; have := hC.2.2.1; omega)
  have hM1 : MI r sm s tx L ri si M3 := hM.fc f3 (fun a j z => by omega) s3
  show CM G Y_X12_tear d [vA 67] M3 _
  refine CM.of s3 ?_
  refine C_X12_tear (B_X12_tear_0 (by omega) s3 (fun M4 e4 s4 v2 ev2 M5 e5 s5 => ?_))
  subst e5 e4
  refine ⟨?_, INV.mk' C3 (hM1.thr.rw (by decide) hr) ((Fr.rf.wr (K := KMd) ⟨by decide, by decide⟩).wr ⟨by decide, by decide⟩) (fun a j z => z)⟩
  rw [ev2, rd_wr, if_neg (by decide), hM1.2.1, ev, e12]
theorem FR_mk {a b c d e f g : Int} (h1 : -1000 ≤ a ∧ a ≤ 1000) (h2 : -1000 ≤ b ∧ b ≤ 1000) (h3 : -1000 ≤ c ∧ c ≤ 1000) (h4 : -1000 ≤ d ∧ d ≤ 1000) (h5 : -1000 ≤ e ∧ e ≤ 1000) (h6 : -1000 ≤ f ∧ f ≤ 1000) (h7 : -1000 ≤ g ∧ g ≤ 1000) : FR (fcts a b c d e f g) := by
  intro i i0 i1
  have hi : i = 1 ∨ i = 2 ∨ i = 3 ∨ i = 4 ∨ i = 5 ∨ i = 6 ∨ i = 7 := by omega
  rcases hi with rfl | rfl | rfl | rfl | rfl | rfl | rfl
  · exact h1
  · exact h2
  · exact h3
  · exact h4
  · exact h5
  · exact h6
  · exact h7
theorem P_asks {x1 x2 x3 x4 x5 x6 x7 x8 : Int} (h1 : inR x1) (h2 : inR x2) (h3 : inR x3) (h4 : inR x4) (h5 : inR x5) (h6 : inR x6) (h7 : inR x7) (h8 : inR x8) (h : INV q M) (hd : 60 ≤ d) : PR G d 0 0 Y_X11_asks Y_X12_asks [vI x1, vI x2, vI x3, vI x4, vI x5, vI x6, vI x7, vI x8] q M := by
  obtain ⟨r, sm, s, tx, L, ri, si, hC, hM⟩ := h
  unfold PR
  have hO := hC.1.2.1.1
  have hV := hM.2.2.1.1
  have v0 := hV.1
  have v5 := hV.2.1
  have e0 : rd M 1 0 = r 0 := hO.1.1
  have i0 : inR (rd M 1 0) := by rw [e0]; exact ⟨by omega, by omega⟩
  have z0 : rd (wr M 67 0 0) 69 0 = r 0 := by rw [rd_wr, if_neg (by decide), hM.2.1]
  have N : ¬ ((x1 = 0 ∨ x1 = 1) ∧ (x2 = 0 ∨ x2 = 1) ∧ (0 ≤ x3 ∧ x3 < r 0) ∧ (x4 = -1 ∨ (0 ≤ x4 ∧ x4 < r 0)) ∧ (0 ≤ x5 ∧ x5 ≤ 5) ∧ (0 ≤ x6 ∧ x6 ≤ 5) ∧ (0 ≤ x7 ∧ x7 ≤ 300) ∧ (0 ≤ x8 ∧ x8 ≤ 4)) → CM G Y_X12_asks d [vA 67, vI x1, vI x2, vI x3, vI x4, vI x5, vI x6, vI x7, vI x8] M (rI (fun v' M2 => v' = -1 ∧ INV (q + 1) M2)) := by
    intro hn
    have g116 : ∀ x9, X G Y_X12_asks d 0 0 116 [vA 67, vI x1, vI x2, vI x3, vI x4, vI x5, vI x6, vI x7, vI x8, vI x9] [] (wr M 67 0 0) (rI (fun v' M2 => v' = -1 ∧ INV (q + 1) M2)) := fun x9 => B_X12_asks_116 (by omega) (sW_67_0 hM.1) ⟨rfl, fin_thr hC hM⟩
    have g52 := B_X12_asks_52 (G := G) (d := d) (k := 0) (n := 0) (by omega) (sW_67_0 hM.1) (g116 0)
    have g48 : (x1 = 0 ∨ x1 = 1) → (x2 = 0 ∨ x2 = 1) → (0 ≤ x3 ∧ x3 < r 0) → (x4 = -1 ∨ (0 ≤ x4 ∧ x4 < r 0)) → X G Y_X12_asks d 0 0 48 [vA 67, vI x1, vI x2, vI x3, vI x4, vI x5, vI x6, vI x7, vI x8, vU] [] (wr M 67 0 0) (rI (fun v' M2 => v' = -1 ∧ INV (q + 1) M2)) := by
      intro a1 a2 a3 a4
      refine B_X12_asks_48 (sm := sm) (by omega) (sW_67_0 hM.1) ⟨h5, fun _ => g116 1, fun a5 => ⟨h6, fun _ => g116 1, fun a6 => ⟨h7, fun _ => g116 1, fun a7 => ⟨h8, fun _ => g116 1, fun a8 => absurd ⟨a1, a2, a3, a4, a5, a6, a7, a8⟩ hn⟩⟩⟩⟩
    refine CM.of hM.1 ?_
    refine C_X12_asks (B_X12_asks_0 (by omega) hM.1 (fun M1 e1 s1 => ?_))
    subst e1
    rw [z0]
    exact ⟨h1, fun _ => g52, fun a1 => ⟨h2, fun _ => g52, fun a2 => ⟨h3, ⟨by omega, by omega⟩, ⟨by omega, by omega⟩, fun _ => g52, fun a3 => ⟨h4, fun a4 => g48 (by omega) (by omega) (by omega) (Or.inl a4), fun a4 => ⟨fun _ => g52, fun a5 => g48 (by omega) (by omega) (by omega) (Or.inr (by omega))⟩⟩⟩⟩⟩
  have g47 : (x1 = 0 ∨ x1 = 1) → (x2 = 0 ∨ x2 = 1) → (0 ≤ x3 ∧ x3 < r 0) → (x4 = -1 ∨ (0 ≤ x4 ∧ x4 < r 0)) → X G Y_X11_asks d 0 0 47 [vA 0, vI x1, vI x2, vI x3, vI x4, vI x5, vI x6, vI x7, vI x8] [] M (rI (fun v M1 => CM G Y_X12_asks d [vA 67, vI x1, vI x2, vI x3, vI x4, vI x5, vI x6, vI x7, vI x8] M1 (rI (fun v' M2 => v' = v ∧ INV (q + 1) M2)))) := by
    intro a1 a2 a3 a4
    refine B_X11_asks_47 (r := r) (sm := sm) (by omega) hC.1.1 ⟨h5, h6, fun a5 => ⟨h7, h8, fun a7 => N (by omega), fun a7 => ⟨h2, fun M25 p25 s25 => ?_⟩⟩, fun a5 => N (by omega)⟩
    have hF : FR (fcts x2 x3 x4 (x5 + x6) (if x2 = 0 then x5 else x6) x7 x8) := FR_mk (by omega) (by omega) (by omega) (by omega) (by split <;> omega) (by omega) (by omega)
    refine ⟨hO.fr p25.1 (fun a j z => by unfold KC at z; omega), by rw [p25.2]; exact hF, a1, fun r32 M31 p31 s31 => ?_⟩
    have f31 : Fr (fun a _ => a = 23 ∨ a = 24) M M31 := (p25.1.mono (fun a j z => Or.inl z)).tr (p31.1.mono (fun a j z => Or.inr z))
    have C31 : CI (q + 1) r sm s tx L ri si M31 := hC.to (hC.1.frM f31 (fun a j z => by omega) s31) f31 (fun a j z => by omega) (by rw [f31.2.2 32 9 (by omega), f31.2.2 44 9 (by omega)]; have := hC.2.2.1; omega)
    have hM1 : MI r sm s tx L ri si M31 := hM.fc f31 (fun a j z => by omega) s31
    have z1 : rd (wr M31 67 0 0) 69 = r := by rw [← hM1.2.1]; exact funext fun j => by rw [rd_wr, if_neg (by omega)]
    have eif : (if x2 ≠ 0 then x6 else x5) = (if x2 = 0 then x5 else x6) := by
      by_cases w : x2 = 0
      · rw [if_neg (fun z => z w), if_pos w]
      · rw [if_pos w, if_neg w]
    show CM G Y_X12_asks d [vA 67, vI x1, vI x2, vI x3, vI x4, vI x5, vI x6, vI x7, vI x8] M31 _
    have g48 : X G Y_X12_asks d 0 0 48 [vA 67, vI x1, vI x2, vI x3, vI x4, vI x5, vI x6, vI x7, vI x8, vU] [] (wr M31 67 0 0) (rI (fun v' M2 => v' = r32 ∧ INV (q + 1) M2)) := by
      refine B_X12_asks_48 (sm := sm) (by omega) (sW_67_0 s31) ⟨h5, fun w => absurd ⟨by omega, by omega⟩ w, fun _ => ⟨h6, fun w => absurd ⟨by omega, by omega⟩ w, fun _ => ⟨h7, fun w => absurd ⟨by omega, by omega⟩ w, fun _ => ⟨h8, fun w => absurd ⟨by omega, by omega⟩ w, fun _ => ⟨h2, ⟨by rw [z1]; exact hV, by rw [z1]; exact hM1.2.2.1.2⟩, a1, by rw [eif]; exact hF, fun r14 M13 p13 s13 => ⟨?_, ?_⟩⟩⟩⟩⟩⟩
      · rw [p13.2, z1, eif, p31.2, p25.2]
      · exact INV.mk' C31 (hM1.thr.scr p13.1 (fun a j z => by unfold KA at z; unfold KSc; omega) s13) ((Fr.rf.wr (K := KMd) ⟨by decide, by decide⟩).tr (p13.1.mono (fun a j z => by unfold KA at z; unfold KMd; omega))) (fun a j z => z)
    refine CM.of s31 ?_
    refine C_X12_asks (B_X12_asks_0 (by omega) s31 (fun M1 e1 s1 => ?_))
    subst e1
    rw [z1]
    exact ⟨h1, fun w => absurd (by omega) w, fun _ => ⟨h2, fun w => absurd (by omega) w, fun _ => ⟨h3, ⟨by omega, by omega⟩, ⟨by omega, by omega⟩, fun w => absurd (by omega) w, fun _ => ⟨h4, fun _ => g48, fun w => ⟨fun w2 => absurd (by omega) w2, fun _ => g48⟩⟩⟩⟩⟩
  refine C_X11_asks (B_X11_asks_0 (by omega) hC.1.1 ⟨h1, fun c => N (by omega), fun c => ⟨h2, fun c2 => N (by omega), fun c2 => ⟨h3, i0, fun c3 => ⟨h4, fun c4 => ?_, fun c4 => ⟨fun c5 => ?_, fun c5 => ?_⟩⟩, fun c3 => ?_⟩⟩⟩)
  · rw [e0] at c3; exact g47 (by omega) c2 c3 (Or.inl c4)
  · rw [e0] at c5; exact N (by omega)
  · rw [e0] at c3 c5; exact g47 (by omega) c2 c3 (Or.inr c5)
  · rw [e0] at c3; exact N (by omega)
end PC4
