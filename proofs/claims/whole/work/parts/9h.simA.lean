/-! ===== the model follows every derivation ===== -/
def lvM (m : Nat) : Int := if m = 0 then 5 else if m = 1 then 6 else if m = 2 then 7 else if m = 3 then 1 else if m = 4 then 2 else 3
def bbM (m : Nat) : Int := if m = 0 then 5 else if m = 1 then 6 else if m = 2 then 7 else if m = 3 then 1 else if m = 4 then 2 else 4
def exM (m : Nat) (k : Int) : Prop := (m = 0 → nOp k) ∧ (m = 1 → k ≠ 42 ∧ k ≠ 47) ∧ (m = 3 → k ≠ 303 ∧ k ≠ 304) ∧ (m = 4 → k ≠ 304)
def trM (m : Nat) : Int := if m < 3 then 3 else 2
theorem stl_cds {M M1 : MM} {lv : Int} {n0 n' n1 D : Nat} {ρ : Pil} {v : SV} (h : PEn M lv n0 n' ρ D v) (e : (rd M1 74, rd M1 75, (n1 : Int)) = stl ρ (rd M 74, rd M 75, (n' : Int))) : CdS n0 M M1 ∧ n0 < n1 ∧ Frg (rd M1 74) (rd M1 75) n0 n1 D v := by
  obtain ⟨h1, h2, h3⟩ := h
  have hk := stl_keep (s0 := (n0 : Int)) ρ (rd M 74, rd M 75, (n' : Int)) (by show (n0 : Int) ≤ n'; omega) (fun x hx => (h2 x hx).2.2.2)
  rw [← e] at h3 hk
  dsimp only at h3 hk
  have hl := h3.lt
  exact ⟨fun k k0 => hk k k0, by omega, h3⟩
section SIM
variable (G : GG) (d : Nat) (Q : PV → MM → Prop) (tx : Int → Int) (L : Int) (kd : Nat → Int) (N : Nat) (tst : Int)
def Po (m br n0 pt0 : Nat) (π : Pil) (M : MM) (res : Rz) : Prop :=
  (res.2.2 = none → ∀ M' t', FSt M' tx L res.1 → Fr KMp M M' → XE G d tst Q t' M') ∧
  (∀ v, res.2.2 = some v → ∀ M' n' ρ, MSt M' tx L kd N res.1 res.2.1 n' (ρ ++ π) br → Fr KMp M M' → CdS n0 M M' → PEn M' (lvM m) n0 n' ρ (res.2.1 - pt0) v → exM m (kd res.1) → pt0 < res.2.1 → (3 ≤ m → z01 v) → XE G d tst Q (trM m) M')
def inT (π : Pil) : Prop := inrP π ≠ 31 ∧ (inrP π ≠ -1 ∨ tst ≠ 0)
def SimS (m br i pt : Nat) (res : Rz) : Prop := ∀ M n π t, MSt M tx L kd N i pt n π br → topB π < bbM m → (m < 3 → trn kd i t) → (3 ≤ m → t = 0 ∧ inT tst π) → Po G d Q tx L kd N tst m br n pt π M res → XE G d tst Q t M
def SimL (m br i pt : Nat) (v : SV) (res : Rz) : Prop := ∀ M n0 n' ρ π pt0, MSt M tx L kd N i pt n' (ρ ++ π) br → topB π < bbM m → PEn M (lvM m) n0 n' ρ (pt - pt0) v → pt0 < pt → exM (m + 1) (kd i) → (3 ≤ m → z01 v ∧ inT tst π) → Po G d Q tx L kd N tst m br n0 pt0 π M res → XE G d tst Q (trM m) M
def RSim (m br i pt : Nat) (x : SV) (res : Rz) : Prop := (m < 6 → SimS G d Q tx L kd N tst m br i pt res) ∧ (∀ lv, lv < 2 → m = 6 + lv → SimL G d Q tx L kd N tst lv br i pt x res) ∧ (∀ lv, lv < 2 → m = 8 + lv → SimL G d Q tx L kd N tst (lv + 3) br i pt x res)
variable {G d Q tx L kd N tst}
theorem Po.mono {m br n0 pt0 : Nat} {π : Pil} {M M1 : MM} {res : Rz} (h : Po G d Q tx L kd N tst m br n0 pt0 π M res) (hF : Fr KMp M M1) (hC : CdS n0 M M1) : Po G d Q tx L kd N tst m br n0 pt0 π M1 res :=
  ⟨fun e M' t' q1 q2 => h.1 e M' t' q1 (hF.tr q2), fun v e M' n' ρ q1 q2 q3 => h.2 v e M' n' ρ q1 (hF.tr q2) (hC.tr q3 (Nat.le_refl _))⟩
theorem Po.no {m m' br br' n0 n0' pt0 pt0' : Nat} {π π' : Pil} {M M1 : MM} {a p : Nat} (h : Po G d Q tx L kd N tst m br n0 pt0 π M (a, p, none)) (hF : Fr KMp M M1) : Po G d Q tx L kd N tst m' br' n0' pt0' π' M1 (a, p, none) :=
  ⟨fun e M' t' q1 q2 => h.1 e M' t' q1 (hF.tr q2), fun v e => by cases e⟩
def mOk (m : Nat) : Prop := m = 0 ∨ m = 1 ∨ m = 3 ∨ m = 4
theorem mOk_f {m : Nat} (h : mOk m) : bbM m ≤ bbM (m + 1) ∧ lvM m ≤ lvM (m + 1) ∧ trM (m + 1) = trM m ∧ (m < 3 ↔ m + 1 < 3) := by
  rcases h with e | e | e | e <;> subst e <;> decide
theorem gen1 {m br i pt a p : Nat} (hm : mOk m) (h : SimS G d Q tx L kd N tst (m + 1) br i pt (a, p, none)) : SimS G d Q tx L kd N tst m br i pt (a, p, none) := by
  intro M n π t hM hb ht1 ht2 hP
  obtain ⟨f1, f2, f3, f4⟩ := mOk_f hm
  exact h M n π t hM (by omega) (fun w => ht1 (f4.mpr w)) (fun w => ht2 (by clear f4; rcases hm with e | e | e | e <;> omega)) (hP.no Fr.rf)
theorem gen2 {m br i pt a p : Nat} {v : SV} {res : Rz} (hm : mOk m) (h : SimS G d Q tx L kd N tst (m + 1) br i pt (a, p, some v)) (g : SimL G d Q tx L kd N tst m br a p v res) : SimS G d Q tx L kd N tst m br i pt res := by
  intro M n π t hM hb ht1 ht2 hP
  obtain ⟨f1, f2, f3, f4⟩ := mOk_f hm
  have f5 : 3 ≤ m + 1 → 3 ≤ m := fun w => by clear f4; rcases hm with e | e | e | e <;> omega
  refine h M n π t hM (by omega) (fun w => ht1 (f4.mpr w)) (fun w => ht2 (f5 w)) ⟨fun e => (by cases e), fun v' e M' n' ρ q1 q2 q3 q4 q5 q6 q7 => ?_⟩
  have ev : v = v' := Option.some.inj e
  subst ev
  rw [f3]
  exact g M' n n' ρ π pt q1 hb (q4.mono f2) q6 q5 (fun w => ⟨q7 (by clear f4; omega), (ht2 w).2⟩) (hP.mono q2 q3)
theorem gen3 {m br i pt : Nat} {v : SV} (he : exM (m + 1) (kd i) → exM m (kd i)) : SimL G d Q tx L kd N tst m br i pt v (i, pt, some v) := by
  intro M n0 n' ρ π pt0 q1 q2 q3 q4 q5 q6 hP
  exact hP.2 v rfl M n' ρ q1 Fr.rf (fun _ _ => ⟨rfl, rfl⟩) q3 (he q5) q4 (fun w => (q6 w).1)
theorem opN_f {lv : Nat} {k : Int} (hlv : lv < 2) (hk : k = oA lv ∨ k = oB lv) : ((k = 43 ∧ opN lv k = 20) ∨ (k = 45 ∧ opN lv k = 21) ∨ (k = 42 ∧ opN lv k = 22) ∨ (k = 47 ∧ opN lv k = 23)) ∧ bnd12 (opN lv k) = lvM lv ∧ bbM lv = lvM lv ∧ bnd12 (opN lv k) < bbM (lv + 1) ∧ 20 ≤ opN lv k ∧ opN lv k < 27 := by
  have : lv = 0 ∨ lv = 1 := by omega
  rcases this with e | e <;> subst e <;> rcases hk with w | w <;> subst w <;> decide
theorem sim_op {lv br i pt a p : Nat} {v w : SV} (hd : 9 ≤ d) (hX : CtX tx L kd N) (hlv : lv < 2) (hk : kd i = oA lv ∨ kd i = oB lv) {M : MM} {n0 n' pt0 : Nat} {ρ π : Pil} (q1 : MSt M tx L kd N i pt n' (ρ ++ π) br) (q2 : topB π < bbM lv) (q3 : PEn M (lvM lv) n0 n' ρ (pt - pt0) v) (q4 : pt0 < pt) (o : Option SV) (h : SimS G d Q tx L kd N tst (lv + 1) br (i + 1) pt (a, p, o))
    (hN : o = none → ∀ M' t', FSt M' tx L a → Fr KMp M M' → XE G d tst Q t' M')
    (hY : ∀ w, o = some w → ∀ M2 n2 ρ2, MSt M2 tx L kd N a p n2 (ρ2 ++ π) br → Fr KMp M M2 → CdS n0 M M2 → PEn M2 (lvM lv) n0 n2 ρ2 (p - pt0) (binV (opN lv (kd i)) v w) → exM (lv + 1) (kd a) → pt0 < p → XE G d tst Q 3 M2) : XE G d tst Q 3 M := by
  obtain ⟨f1, f2, f3, f4, f5⟩ := opN_f hlv hk
  refine XE_op (by omega) hX q1 f1 (by rw [f2, ← f3]; exact q2) (fun e he => by rw [f2]; exact (q3.2.1 e he).1) (fun M1 M' S' F' C' E' => ?_)
  obtain ⟨c1, c2, c3⟩ := stl_cds q3 E'
  refine h M' (n' + cntP ρ) ((opN lv (kd i), 0) :: π) 1 S' f4 (fun _ => Or.inl rfl) (fun z => by omega) ⟨fun e M2 t' z1 z2 => hN e M2 t' z1 (F'.tr z2), fun u e M2 n2 ρ2 z1 z2 z3 z4 z5 z6 _ => ?_⟩
  dsimp only at z1 z4 z5 z6 e
  have cM2 : CdS (n' + cntP ρ) M1 M2 := fun k hk => ⟨(z3 k hk).1.trans (congrFun C'.1 k), (z3 k hk).2.trans (congrFun C'.2 k)⟩
  have pe := PEn_bin c3 (by omega) (by omega) cM2 z4 (lv := lvM lv) (by have := (mOk_f (m := lv) (by unfold mOk; omega)).2.1; exact this) (by rw [f2]; exact Int.le_refl _) f5
  rw [show pt - pt0 + (p - pt) = p - pt0 by omega] at pe
  have et : trM (lv + 1) = 3 := by unfold trM; rw [if_pos (by omega)]
  rw [et]
  refine hY u e M2 n2 (ρ2 ++ [(opN lv (kd i), 0)]) (by rw [List.append_assoc]; exact z1) (F'.tr z2) (c1.tr cM2 (by omega)) pe z5 (by omega)
end SIM
