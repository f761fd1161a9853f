/-! ===== the model follows: rules of sums ===== -/
section SIM2
variable {G : GG} {d : Nat} {Q : PV → MM → Prop} {tx : Int → Int} {L : Int} {kd : Nat → Int} {N : Nat} {tst : Int}
theorem RSim.s {m br i pt : Nat} {x : SV} {res : Rz} (hm : m < 6) (h : SimS G d Q tx L kd N tst m br i pt res) : RSim G d Q tx L kd N tst m br i pt x res := ⟨fun _ => h, fun lv _ e => by omega, fun lv _ e => by omega⟩
theorem RSim.l1 {lv br i pt : Nat} {x : SV} {res : Rz} (hm : lv < 2) (h : SimL G d Q tx L kd N tst lv br i pt x res) : RSim G d Q tx L kd N tst (6 + lv) br i pt x res := ⟨fun w => by omega, fun lv' _ e => by
  have : lv' = lv := by omega
  rw [this]; exact h, fun lv' _ e => by omega⟩
theorem RSim.l2 {lv br i pt : Nat} {x : SV} {res : Rz} (hm : lv < 2) (h : SimL G d Q tx L kd N tst (lv + 3) br i pt x res) : RSim G d Q tx L kd N tst (8 + lv) br i pt x res := ⟨fun w => by omega, fun lv' _ e => by omega, fun lv' _ e => by
  have : lv' = lv := by omega
  rw [this]; exact h⟩
theorem lf_eq (k : Int) (hl : lfK k) : (fun F : Int → Int => some (if lfO k = 0 then lfT k else F (lfO k))) = lfV k := by
  funext F
  unfold lfO lfT lfV
  unfold lfK at hl
  by_cases q : 1000 ≤ k
  · rw [if_pos q, if_pos rfl, if_pos q, if_pos q]
  · rw [if_neg q, if_neg (by omega), if_neg q]
theorem ex_sum {lv : Nat} {k : Int} (hlv : lv < 2) (h1 : k ≠ oA lv) (h2 : k ≠ oB lv) (h : exM (lv + 1) k) : exM lv k := by
  have : lv = 0 ∨ lv = 1 := by omega
  rcases this with e | e
  · subst e
    have h3 := h.2.1 rfl
    exact ⟨fun _ => ⟨h1, h2, h3.1, h3.2⟩, fun w => absurd w (by decide), fun w => absurd w (by decide), fun w => absurd w (by decide)⟩
  · subst e
    exact ⟨fun w => absurd w (by decide), fun _ => ⟨h1, h2⟩, fun w => absurd w (by decide), fun w => absurd w (by decide)⟩
theorem b5 {e : Int × Int} (h : 5 ≤ bnd12 e.1) (h1 : 20 ≤ e.1) (h2 : e.1 < 30) : 20 ≤ e.1 ∧ e.1 ≤ 23 := by
  refine ⟨h1, ?_⟩
  unfold bnd12 at h
  rw [if_pos h2] at h
  by_cases a : e.1 ≠ 29
  · rw [if_pos a] at h
    by_cases b : e.1 ≠ 28
    · rw [if_pos b] at h
      by_cases c : e.1 ≠ 27
      · rw [if_pos c] at h
        by_cases f : e.1 < 24
        · omega
        · rw [if_neg f] at h; exact absurd h (by decide)
      · rw [if_neg c] at h; exact absurd h (by decide)
    · rw [if_neg b] at h; exact absurd h (by decide)
  · rw [if_neg a] at h; exact absurd h (by decide)
theorem mO1 {lv : Nat} (h : lv < 2) : mOk lv := by unfold mOk; omega
theorem mO2 {lv : Nat} (h : lv < 2) : mOk (lv + 3) := by unfold mOk; omega
theorem sim_S (hd : 9 ≤ d) (hX : CtX tx L kd N) (htst : inR tst) : RuS kd (RSim G d Q tx L kd N tst) := by
  refine ⟨?_, ?_, ?_, ?_, ?_, ?_, ?_, ?_, ?_, ?_, ?_⟩
  · intro lv br i pt a p hlv h
    exact RSim.s (by omega) (gen1 (mO1 hlv) (h.1 (by omega)))
  · intro lv br i pt a p v res hlv h g
    exact RSim.s (by omega) (gen2 (mO1 hlv) (h.1 (by omega)) (g.2.1 lv hlv rfl))
  · intro lv br i pt v hlv h1 h2
    exact RSim.l1 hlv (gen3 (ex_sum hlv h1 h2))
  · intro lv br i pt v a p hlv hk h
    refine RSim.l1 hlv (fun M n0 n' ρ π pt0 q1 q2 q3 q4 q5 q6 hP => ?_)
    have et : trM lv = 3 := by unfold trM; rw [if_pos (by omega)]
    rw [et]
    exact sim_op (w := dV0) hd hX hlv hk q1 q2 q3 q4 none (h.1 (by omega)) (fun _ => hP.1 rfl) (fun w e => by cases e)
  · intro lv br i pt v a p w res hlv hk h g
    refine RSim.l1 hlv (fun M n0 n' ρ π pt0 q1 q2 q3 q4 q5 q6 hP => ?_)
    have et : trM lv = 3 := by unfold trM; rw [if_pos (by omega)]
    rw [et]
    refine sim_op (w := dV0) hd hX hlv hk q1 q2 q3 q4 (some w) (h.1 (by omega)) (fun e => by cases e) (fun u e M2 n2 ρ2 z1 z2 z3 z4 z5 z6 => ?_)
    have eu : w = u := Option.some.inj e
    subst eu
    have := g.2.1 lv hlv rfl M2 n0 n2 ρ2 π pt0 z1 q2 z4 z6 z5 (fun y => by omega) (hP.mono z2 z3)
    rw [et] at this
    exact this
  · intro i pt y91
    refine RSim.s (by decide) (fun M n π t hM hb ht1 ht2 hP => ?_)
    exact XE_part hd hM (ht1 (by decide)) (fun d' Q' hd' hq' => rp_sqN hd' hX hM y91 (fun M' F' Fr' => hq' 1 M' F'.1 (hP.1 rfl M' 1 F' Fr')))
  · intro br i pt a p hb8 y91 h
    refine RSim.s (by decide) (fun M n π t hM hb ht1 ht2 hP => ?_)
    exact XE_part hd hM (ht1 (by decide)) (fun d' Q' hd' hq' => rp_sq hd' hX hM y91 hb8 (fun M' S' F' C' => hq' 1 M' S'.1.1 (h.1 (by decide) M' n ((31, 0) :: π) 1 S' (by show bnd12 31 < 5; decide) (fun _ => Or.inl rfl) (fun w => absurd w (by decide)) (hP.no F'))))
  · intro br i pt a p v hb8 y91 h hk
    refine RSim.s (by decide) (fun M n π t hM hb ht1 ht2 hP => ?_)
    refine XE_part hd hM (ht1 (by decide)) (fun d' Q' hd' hq' => rp_sq hd' hX hM y91 hb8 (fun M' S' F' C' => hq' 1 M' S'.1.1 (h.1 (by decide) M' n ((31, 0) :: π) 1 S' (by show bnd12 31 < 5; decide) (fun _ => Or.inl rfl) (fun w => absurd w (by decide)) ⟨fun e => (by cases e), fun u e M2 n2 ρ z1 z2 z3 z4 z5 z6 _ => ?_⟩)))
    have hin : inrP (ρ ++ (31, 0) :: π) = 31 := by rw [inrP_app ρ (fun x hx => (z4.2.1 x hx).2.2.1)]; rfl
    exact XE_closeN hd hX z1 (z5.1 rfl) hk hin htst (fun M3 t' F3 Fr3 => hP.1 rfl M3 t' F3 ((F'.tr z2).tr Fr3))
  · intro br i pt a p v hb8 y91 h hk
    refine RSim.s (by decide) (fun M n π t hM hb ht1 ht2 hP => ?_)
    refine XE_part hd hM (ht1 (by decide)) (fun d' Q' hd' hq' => rp_sq hd' hX hM y91 hb8 (fun M' S' F' C' => hq' 1 M' S'.1.1 (h.1 (by decide) M' n ((31, 0) :: π) 1 S' (by show bnd12 31 < 5; decide) (fun _ => Or.inl rfl) (fun w => absurd w (by decide)) ⟨fun e => (by cases e), fun u e M2 n2 ρ z1 z2 z3 z4 z5 z6 _ => ?_⟩)))
    have eu : v = u := Option.some.inj e
    subst eu
    refine XE_close hd hX z1 hk (fun x hx => ⟨(z4.2.1 x hx).1, (z4.2.1 x hx).2.2.1⟩) htst (fun M1 M3 S3 F3 C3 E3 => ?_)
    obtain ⟨c1, c2, c3⟩ := stl_cds z4 E3
    refine hP.2 v rfl M3 (n2 + cntP ρ) [] S3 ((F'.tr z2).tr F3) (fun k hk' => ?_) (PEn.nil (by omega) (by rw [C3.1, C3.2]; exact c3)) ⟨fun w => absurd w (by decide), fun w => absurd w (by decide), fun w => absurd w (by decide), fun w => absurd w (by decide)⟩ z6 (fun w => absurd w (by decide))
    rw [C3.1, C3.2]
    refine ⟨(c1 k hk').1.trans ((z3 k hk').1.trans (congrFun C'.1 k)), (c1 k hk').2.trans ((z3 k hk').2.trans (congrFun C'.2 k))⟩
  · intro br i pt n91 hl
    refine RSim.s (by decide) (fun M n π t hM hb ht1 ht2 hP => ?_)
    exact XE_part hd hM (ht1 (by decide)) (fun d' Q' hd' hq' => rp_no hd' hX hM n91 hl (fun M' F' Fr' => hq' 3 M' F'.1 (hP.1 rfl M' 3 F' Fr')))
  · intro br i pt n91 hl hp
    refine RSim.s (by decide) (fun M n π t hM hb ht1 ht2 hP => ?_)
    refine XE_part hd hM (ht1 (by decide)) (fun d' Q' hd' hq' => rp_leaf hd' hX hM n91 hl hp (fun M' S' F' g1 g2 => hq' 3 M' S'.1.1 ?_))
    have hl' := hl
    unfold lfK at hl'
    have e1 : rd M' 74 n = lfO (kd i) := by rw [g1]; exact if_pos rfl
    have e2 : rd M' 75 n = lfT (kd i) := by rw [g2]; exact if_pos rfl
    have f := Frg_leaf (op := rd M' 74) (ar := rd M' 75) (k := (n : Int)) (by omega) (by rw [e1]; unfold lfO; split <;> omega) (by rw [e1, e2]; unfold lfO lfT; split <;> omega)
    rw [e1, e2, lf_eq (kd i) hl] at f
    refine hP.2 _ rfl M' (n + 1) [] S' F' (fun k hk => ?_) (PEn.nil (by omega) ?_) ⟨fun w => absurd w (by decide), fun w => absurd w (by decide), fun w => absurd w (by decide), fun w => absurd w (by decide)⟩ (by show pt < pt + 1; omega) (fun w => absurd w (by decide))
    · rw [g1, g2]; unfold upF; rw [if_neg (by omega), if_neg (by omega)]; exact ⟨rfl, rfl⟩
    · show Frg (rd M' 74) (rd M' 75) n ((n + 1 : Nat) : Int) (pt + 1 - pt) (lfV (kd i))
      rw [show pt + 1 - pt = 1 by omega, show ((n + 1 : Nat) : Int) = (n : Int) + 1 by omega]
      exact f
end SIM2
