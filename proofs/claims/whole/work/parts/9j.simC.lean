/-! ===== the model follows: rules of tests ===== -/
section SIM3
variable {G : GG} {d : Nat} {Q : PV → MM → Prop} {tx : Int → Int} {L : Int} {kd : Nat → Int} {N : Nat} {tst : Int}
theorem ex_tst {lv : Nat} {k : Int} (hlv : lv < 2) (h1 : k ≠ jA lv) (h : exM (lv + 3 + 1) k) : exM (lv + 3) k := by
  have : lv = 0 ∨ lv = 1 := by omega
  rcases this with e | e
  · subst e
    exact ⟨fun w => absurd w (by decide), fun w => absurd w (by decide), fun _ => ⟨h1, h.2.2.2 rfl⟩, fun w => absurd w (by decide)⟩
  · subst e
    exact ⟨fun w => absurd w (by decide), fun w => absurd w (by decide), fun w => absurd w (by decide), fun _ => h1⟩
theorem ex_5 {k : Int} : exM 5 k := ⟨fun w => absurd w (by decide), fun w => absurd w (by decide), fun w => absurd w (by decide), fun w => absurd w (by decide)⟩
theorem jO_f {lv : Nat} (hlv : lv < 2) : bnd12 (jO lv) = lvM (lv + 3) ∧ bbM (lv + 3) = lvM (lv + 3) ∧ bnd12 (jO lv) < bbM (lv + 4) ∧ (jO lv = 28 ∨ jO lv = 29) := by
  have : lv = 0 ∨ lv = 1 := by omega
  rcases this with e | e <;> subst e <;> decide
theorem sim_jn {lv br i pt a p : Nat} {v : SV} (hd : 9 ≤ d) (hX : CtX tx L kd N) (hlv : lv < 2) (hk : kd i = jA lv) {M : MM} {n0 n' pt0 : Nat} {ρ π : Pil} (q1 : MSt M tx L kd N i pt n' (ρ ++ π) br) (q2 : topB π < bbM (lv + 3)) (q3 : PEn M (lvM (lv + 3)) n0 n' ρ (pt - pt0) v) (q4 : pt0 < pt) (hz : z01 v) (hin : inT tst π) (o : Option SV) (h : SimS G d Q tx L kd N tst (lv + 4) br (i + 1) pt (a, p, o))
    (hN : o = none → ∀ M' t', FSt M' tx L a → Fr KMp M M' → XE G d tst Q t' M')
    (hY : ∀ w, o = some w → ∀ M2 n2 ρ2, MSt M2 tx L kd N a p n2 (ρ2 ++ π) br → Fr KMp M M2 → CdS n0 M M2 → PEn M2 (lvM (lv + 3)) n0 n2 ρ2 (p - pt0) (jnV (jO lv) v w) → exM (lv + 4) (kd a) → pt0 < p → z01 w → XE G d tst Q 2 M2) : XE G d tst Q 2 M := by
  obtain ⟨f2, f3, f4, f5⟩ := jO_f hlv
  refine XE_jn hd hX q1 hlv hk (fun e he => by rw [f2]; exact (q3.2.1 e he).1) (by rw [f2, ← f3]; exact q2) (fun M1 M' S' F' g1 g2 E' => ?_)
  obtain ⟨c1, c2, c3⟩ := stl_cds q3 E'
  have hio : inrP ((jO lv, ((n' + cntP ρ : Nat) : Int)) :: π) = inrP π := if_neg (by show ¬ 30 ≤ jO lv; omega)
  have hin' : inT tst ((jO lv, ((n' + cntP ρ : Nat) : Int)) :: π) := by unfold inT; rw [hio]; exact hin
  refine h M' (n' + cntP ρ + 1) ((jO lv, ((n' + cntP ρ : Nat) : Int)) :: π) 0 S' f4 (fun z => by omega) (fun _ => ⟨rfl, hin'⟩) ⟨fun e M2 t' z1 z2 => hN e M2 t' z1 (F'.tr z2), fun u e M2 n2 ρ2 z1 z2 z3 z4 z5 z6 z7 => ?_⟩
  dsimp only at z1 z4 z5 z6 e
  have cM2 : CdS (n' + cntP ρ) M1 M2 := fun k hk => by
    have q := z3 k (by omega)
    rw [g1, g2] at q
    unfold upF at q
    rw [if_neg (by omega), if_neg (by omega)] at q
    exact q
  have e74 : rd M2 74 ((n' + cntP ρ : Nat) : Int) = jO lv := by
    rw [(z3 _ (by omega)).1, g1]; exact if_pos rfl
  have pe := PEn_jn c3 hz (by omega) cM2 e74 z4 (lv := lvM (lv + 3)) (by have := (mOk_f (mO2 hlv)).2.1; exact this) (by rw [f2]; exact Int.le_refl _) f5
  rw [show pt - pt0 + (p - pt) = p - pt0 by omega] at pe
  have et : trM (lv + 4) = 2 := by unfold trM; rw [if_neg (by omega)]
  rw [et]
  refine hY u e M2 n2 (ρ2 ++ [(jO lv, ((n' + cntP ρ : Nat) : Int))]) (by rw [List.append_assoc]; exact z1) (F'.tr z2) (c1.tr cM2 (by omega)) pe z5 (by omega) (z7 (by omega))
theorem sim_cmp {br i pt a p : Nat} {v : SV} (hd : 9 ≤ d) (hX : CtX tx L kd N) (htst : inR tst) (n305 : kd i ≠ 305) (n40 : kd i ≠ 40) {M : MM} {n : Nat} {π : Pil} (hM : MSt M tx L kd N i pt n π br) (hb : topB π < 4) (h : SimS G d Q tx L kd N tst 0 br i pt (a, p, some v))
    (hY : ∀ M2 n2 ρ, MSt M2 tx L kd N a p n2 (ρ ++ π) br → Fr KMp M M2 → CdS n M M2 → PEn M2 5 n n2 ρ (p - pt) v → (∀ e ∈ ρ, 20 ≤ e.1 ∧ e.1 ≤ 23) → nOp (kd a) → pt < p → XE G d tst Q 3 M2) : XE G d tst Q 0 M := by
  refine h M n π 0 hM (by show topB π < 5; omega) (fun _ => Or.inr ⟨rfl, n305, n40⟩) (fun w => absurd w (by decide)) ⟨fun e => (by cases e), fun u e M2 n2 ρ z1 z2 z3 z4 z5 z6 _ => ?_⟩
  have eu : v = u := Option.some.inj e
  subst eu
  exact hY M2 n2 ρ z1 z2 z3 z4 (fun x hx => b5 (z4.2.1 x hx).1 (z4.2.1 x hx).2.1 (z4.2.1 x hx).2.2.1) (z5.1 rfl) z6
theorem cpO_f {k : Int} (h : cpK k) : ((k = 60 ∧ cpO k = 24) ∨ (k = 62 ∧ cpO k = 25) ∨ (k = 61 ∧ cpO k = 26)) ∧ bnd12 (cpO k) = 4 ∧ 24 ≤ cpO k ∧ cpO k ≤ 26 := by
  rcases h with e | e | e <;> subst e <;> decide
theorem inT_30 {π : Pil} : inT tst ((30, 0) :: π) := ⟨by show (30 : Int) ≠ 31; decide, Or.inl (by show (30 : Int) ≠ -1; decide)⟩
theorem sim_T (hd : 9 ≤ d) (hX : CtX tx L kd N) (htst : inR tst) : RuT kd (RSim G d Q tx L kd N tst) := by
  refine ⟨?_, ?_, ?_, ?_, ?_, ?_, ?_, ?_, ?_, ?_, ?_, ?_, ?_, ?_, ?_⟩
  · intro lv br i pt a p hlv h
    exact RSim.s (by omega) (gen1 (mO2 hlv) (h.1 (by omega)))
  · intro lv br i pt a p v res hlv h g
    exact RSim.s (by omega) (gen2 (mO2 hlv) (h.1 (by omega)) (g.2.2 lv hlv rfl))
  · intro lv br i pt v hlv h1
    exact RSim.l2 hlv (gen3 (ex_tst hlv h1))
  · intro lv br i pt v a p hlv hk h
    refine RSim.l2 hlv (fun M n0 n' ρ π pt0 q1 q2 q3 q4 q5 q6 hP => ?_)
    have et : trM (lv + 3) = 2 := by unfold trM; rw [if_neg (by omega)]
    rw [et]
    have q6' := q6 (by omega)
    exact sim_jn hd hX hlv hk q1 q2 q3 q4 q6'.1 q6'.2 none (h.1 (by omega)) (fun _ => hP.1 rfl) (fun w e => by cases e)
  · intro lv br i pt v a p w res hlv hk h g
    refine RSim.l2 hlv (fun M n0 n' ρ π pt0 q1 q2 q3 q4 q5 q6 hP => ?_)
    have et : trM (lv + 3) = 2 := by unfold trM; rw [if_neg (by omega)]
    rw [et]
    have q6' := q6 (by omega)
    refine sim_jn hd hX hlv hk q1 q2 q3 q4 q6'.1 q6'.2 (some w) (h.1 (by omega)) (fun e => by cases e) (fun u e M2 n2 ρ2 z1 z2 z3 z4 z5 z6 z7 => ?_)
    have eu : w = u := Option.some.inj e
    subst eu
    have := g.2.2 lv hlv rfl M2 n0 n2 ρ2 π pt0 z1 q2 z4 z6 z5 (fun _ => ⟨z01_jn q6'.1 z7, q6'.2⟩) (hP.mono z2 z3)
    rw [et] at this
    exact this
  · intro br i pt a p hk h
    refine RSim.s (by decide) (fun M n π t hM hb ht1 ht2 hP => ?_)
    obtain ⟨t0, hin⟩ := ht2 (by decide)
    subst t0
    exact XE_not hd hX hM hk (fun M' S' F' C' => h.1 (by decide) M' n ((27, 0) :: π) 0 S' (by show bnd12 27 < 4; decide) (fun w => absurd w (by decide)) (fun _ => ⟨rfl, hin⟩) (hP.no F'))
  · intro br i pt a p v hk h
    refine RSim.s (by decide) (fun M n π t hM hb ht1 ht2 hP => ?_)
    obtain ⟨t0, hin⟩ := ht2 (by decide)
    subst t0
    refine XE_not hd hX hM hk (fun M' S' F' C' => h.1 (by decide) M' n ((27, 0) :: π) 0 S' (by show bnd12 27 < 4; decide) (fun w => absurd w (by decide)) (fun _ => ⟨rfl, hin⟩) ⟨fun e => (by cases e), fun u e M2 n2 ρ z1 z2 z3 z4 z5 z6 z7 => ?_⟩)
    have eu : v = u := Option.some.inj e
    subst eu
    have zz := z7 (by decide)
    dsimp only at z6
    refine hP.2 _ rfl M2 n2 (ρ ++ [(27, 0)]) (by rw [List.append_assoc]; exact z1) (F'.tr z2) (fun k hk' => ⟨(z3 k hk').1.trans (congrFun C'.1 k), (z3 k hk').2.trans (congrFun C'.2 k)⟩) (PEn_not z4 zz (by show 1 ≤ p - pt; omega) (by decide) (by decide)) ex_5 z6 (fun _ => z01_not zz)
  · intro i pt hk
    refine RSim.s (by decide) (fun M n π t hM hb ht1 ht2 hP => ?_)
    obtain ⟨t0, hin⟩ := ht2 (by decide)
    subst t0
    exact XE_rdN hd hX hM hk (hP.1 rfl)
  · intro br i pt a p hb8 hk h
    refine RSim.s (by decide) (fun M n π t hM hb ht1 ht2 hP => ?_)
    obtain ⟨t0, hin⟩ := ht2 (by decide)
    subst t0
    exact XE_rd hd hX hM hk hb8 (fun M' S' F' C' => h.1 (by decide) M' n ((30, 0) :: π) 0 S' (by show bnd12 30 < 1; decide) (fun w => absurd w (by decide)) (fun _ => ⟨rfl, inT_30⟩) (hP.no F'))
  · intro br i pt a p v hb8 hk h hka
    refine RSim.s (by decide) (fun M n π t hM hb ht1 ht2 hP => ?_)
    obtain ⟨t0, hin⟩ := ht2 (by decide)
    subst t0
    refine XE_rd hd hX hM hk hb8 (fun M' S' F' C' => h.1 (by decide) M' n ((30, 0) :: π) 0 S' (by show bnd12 30 < 1; decide) (fun w => absurd w (by decide)) (fun _ => ⟨rfl, inT_30⟩) ⟨fun e => (by cases e), fun u e M2 n2 ρ z1 z2 z3 z4 z5 z6 z7 => ?_⟩)
    have hi2 : inrP (ρ ++ (30, 0) :: π) = 30 := by rw [inrP_app ρ (fun x hx => (z4.2.1 x hx).2.2.1)]; rfl
    have z5' := z5.2.2.1 rfl
    exact XE_tcloseN hd hX z1 z5'.1 z5'.2 hka (by rw [hi2]; decide) (fun M3 t' F3 Fr3 => hP.1 rfl M3 t' F3 ((F'.tr z2).tr Fr3))
  · intro br i pt a p v hb8 hk h hka
    refine RSim.s (by decide) (fun M n π t hM hb ht1 ht2 hP => ?_)
    obtain ⟨t0, hin⟩ := ht2 (by decide)
    subst t0
    refine XE_rd hd hX hM hk hb8 (fun M' S' F' C' => h.1 (by decide) M' n ((30, 0) :: π) 0 S' (by show bnd12 30 < 1; decide) (fun w => absurd w (by decide)) (fun _ => ⟨rfl, inT_30⟩) ⟨fun e => (by cases e), fun u e M2 n2 ρ z1 z2 z3 z4 z5 z6 z7 => ?_⟩)
    have eu : v = u := Option.some.inj e
    subst eu
    refine XE_tclose hd hX z1 hka (fun x hx => ⟨(z4.2.1 x hx).1, (z4.2.1 x hx).2.2.1⟩) (fun M1 M3 S3 F3 C3 E3 => ?_)
    obtain ⟨c1, c2, c3⟩ := stl_cds z4 E3
    refine hP.2 v rfl M3 (n2 + cntP ρ) [] S3 ((F'.tr z2).tr F3) (fun k hk' => ?_) (PEn.nil (by omega) (by rw [C3.1, C3.2]; exact c3)) ex_5 z6 (fun _ => z7 (by decide))
    rw [C3.1, C3.2]
    exact ⟨(c1 k hk').1.trans ((z3 k hk').1.trans (congrFun C'.1 k)), (c1 k hk').2.trans ((z3 k hk').2.trans (congrFun C'.2 k))⟩
  · intro br i pt a p n305 n40 h
    refine RSim.s (by decide) (fun M n π t hM hb ht1 ht2 hP => ?_)
    obtain ⟨t0, hin⟩ := ht2 (by decide)
    subst t0
    have hb' : topB π < 4 := hb
    exact h.1 (by decide) M n π 0 hM (by show topB π < 5; omega) (fun _ => Or.inr ⟨rfl, n305, n40⟩) (fun w => absurd w (by decide)) (hP.no Fr.rf)
  · intro br i pt a p v n305 n40 h hc
    refine RSim.s (by decide) (fun M n π t hM hb ht1 ht2 hP => ?_)
    obtain ⟨t0, hin⟩ := ht2 (by decide)
    subst t0
    refine sim_cmp hd hX htst n305 n40 hM hb (h.1 (by decide)) (fun M2 n2 ρ z1 z2 z3 z4 z5 z6 z7 => ?_)
    exact XE_cmpN hd hX z1 z6 z5 hb hin.1 hin.2 htst hc (fun M3 t' F3 Fr3 => hP.1 rfl M3 t' F3 (z2.tr Fr3))
  · intro br i pt a p v a2 p2 n305 n40 h hc h2
    refine RSim.s (by decide) (fun M n π t hM hb ht1 ht2 hP => ?_)
    obtain ⟨t0, hin⟩ := ht2 (by decide)
    subst t0
    obtain ⟨c1, c2, c3⟩ := cpO_f hc
    refine sim_cmp hd hX htst n305 n40 hM hb (h.1 (by decide)) (fun M2 n2 ρ z1 z2 z3 z4 z5 z6 z7 => ?_)
    exact XE_cmp hd hX z1 z5 hb hin.1 hin.2 htst c1 (fun M1 M' S' F' C' E' => h2.1 (by decide) M' (n2 + cntP ρ) ((cpO (kd a), 0) :: π) 1 S' (by show bnd12 (cpO (kd a)) < 5; rw [c2]; decide) (fun _ => Or.inl rfl) (fun w => absurd w (by decide)) (hP.no (z2.tr F')))
  · intro br i pt a p v a2 p2 w n305 n40 h hc h2
    refine RSim.s (by decide) (fun M n π t hM hb ht1 ht2 hP => ?_)
    obtain ⟨t0, hin⟩ := ht2 (by decide)
    subst t0
    obtain ⟨c1, c2, c3⟩ := cpO_f hc
    refine sim_cmp hd hX htst n305 n40 hM hb (h.1 (by decide)) (fun M2 n2 ρ z1 z2 z3 z4 z5 z6 z7 => ?_)
    refine XE_cmp hd hX z1 z5 hb hin.1 hin.2 htst c1 (fun M1 M' S' F' C' E' => h2.1 (by decide) M' (n2 + cntP ρ) ((cpO (kd a), 0) :: π) 1 S' (by show bnd12 (cpO (kd a)) < 5; rw [c2]; decide) (fun _ => Or.inl rfl) (fun w => absurd w (by decide)) ⟨fun e => (by cases e), fun u e M3 n3 ρ3 y1 y2 y3 y4 y5 y6 _ => ?_⟩)
    have eu : w = u := Option.some.inj e
    subst eu
    dsimp only at y1 y4 y5 y6
    obtain ⟨k1, k2, k3⟩ := stl_cds z4 E'
    have cM3 : CdS (n2 + cntP ρ) M1 M3 := fun k hk => ⟨(y3 k hk).1.trans (congrFun C'.1 k), (y3 k hk).2.trans (congrFun C'.2 k)⟩
    have pe := PEn_bin k3 (by omega) (by omega) cM3 y4 (lv := 3) (by show (3 : Int) ≤ 5; decide) (by rw [c2]; decide) ⟨by omega, by omega⟩
    rw [show p - pt + (p2 - p) = p2 - pt by omega] at pe
    refine XE_told hd hX y1 (y5.1 rfl) (fun x hx => b5 (y4.2.1 x hx).1 (y4.2.1 x hx).2.1 (y4.2.1 x hx).2.2.1) c3 hin.1 hin.2 htst ?_
    exact hP.2 _ rfl M3 n3 (ρ3 ++ [(cpO (kd a), 0)]) (by rw [List.append_assoc]; exact y1) ((z2.tr F').tr y2) ((z3.tr k1 (Nat.le_refl _)).tr cM3 (by omega)) pe ex_5 (by show pt < p2; omega) (fun _ => z01_bin (by omega))
/-- the model follows every derivation -/
theorem sim_all {m br i pt : Nat} {x : SV} {res : Rz} (hd : 9 ≤ d) (hX : CtX tx L kd N) (htst : inR tst) (h : Der kd m br i pt x res) : RSim G d Q tx L kd N tst m br i pt x res := h _ (sim_S hd hX htst) (sim_T hd hX htst)
end SIM3
