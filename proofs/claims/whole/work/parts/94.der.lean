/-! ===== how a text is read: rules; the least relation that keeps them ===== -/
abbrev Rz : Type := Nat × Nat × Option SV
def dV0 : SV := fun _ => none
def oA (lv : Nat) : Int := if lv = 0 then 43 else 42
def oB (lv : Nat) : Int := if lv = 0 then 45 else 47
def opN (lv : Nat) (k : Int) : Int := (if lv = 0 then 20 else 22) + (if k = oB lv then 1 else 0)
def jA (lv : Nat) : Int := if lv = 0 then 303 else 304
def jO (lv : Nat) : Int := if lv = 0 then 29 else 28
def lfK (k : Int) : Prop := (1000 ≤ k ∧ k ≤ 2000) ∨ (306 ≤ k ∧ k ≤ 312)
def lfV (k : Int) : SV := fun F => some (if 1000 ≤ k then k - 1000 else F (k - 305))
def cpK (k : Int) : Prop := k = 60 ∨ k = 62 ∨ k = 61
def cpO (k : Int) : Int := if k = 60 then 24 else if k = 62 then 25 else 26
/-- modes: 0 SUM, 1 TERM, 2 PART, 6 and 7 their loops; 3 TEST, 4 BOTH, 5 PLAIN, 8 and 9 their loops -/
def RuS (kd : Nat → Int) (R : Nat → Nat → Nat → Nat → SV → Rz → Prop) : Prop :=
  (∀ lv br at' pt a p, lv < 2 → R (lv + 1) br at' pt dV0 (a, p, none) → R lv br at' pt dV0 (a, p, none)) ∧
  (∀ lv br at' pt a p v res, lv < 2 → R (lv + 1) br at' pt dV0 (a, p, some v) → R (6 + lv) br a p v res → R lv br at' pt dV0 res) ∧
  (∀ lv br at' pt v, lv < 2 → kd at' ≠ oA lv → kd at' ≠ oB lv → R (6 + lv) br at' pt v (at', pt, some v)) ∧
  (∀ lv br at' pt v a p, lv < 2 → (kd at' = oA lv ∨ kd at' = oB lv) → R (lv + 1) br (at' + 1) pt dV0 (a, p, none) → R (6 + lv) br at' pt v (a, p, none)) ∧
  (∀ lv br at' pt v a p w res, lv < 2 → (kd at' = oA lv ∨ kd at' = oB lv) → R (lv + 1) br (at' + 1) pt dV0 (a, p, some w) → R (6 + lv) br a p (binV (opN lv (kd at')) v w) res → R (6 + lv) br at' pt v res) ∧
  (∀ at' pt, kd at' = 91 → R 2 8 at' pt dV0 (at', pt, none)) ∧
  (∀ br at' pt a p, br < 8 → kd at' = 91 → R 0 (br + 1) (at' + 1) pt dV0 (a, p, none) → R 2 br at' pt dV0 (a, p, none)) ∧
  (∀ br at' pt a p v, br < 8 → kd at' = 91 → R 0 (br + 1) (at' + 1) pt dV0 (a, p, some v) → kd a ≠ 93 → R 2 br at' pt dV0 (a, p, none)) ∧
  (∀ br at' pt a p v, br < 8 → kd at' = 91 → R 0 (br + 1) (at' + 1) pt dV0 (a, p, some v) → kd a = 93 → R 2 br at' pt dV0 (a + 1, p, some v)) ∧
  (∀ br at' pt, kd at' ≠ 91 → (¬ lfK (kd at') ∨ 50 ≤ pt) → R 2 br at' pt dV0 (at', pt, none)) ∧
  (∀ br at' pt, kd at' ≠ 91 → lfK (kd at') → pt < 50 → R 2 br at' pt dV0 (at' + 1, pt + 1, some (lfV (kd at'))))
def RuT (kd : Nat → Int) (R : Nat → Nat → Nat → Nat → SV → Rz → Prop) : Prop :=
  (∀ lv br at' pt a p, lv < 2 → R (lv + 4) br at' pt dV0 (a, p, none) → R (lv + 3) br at' pt dV0 (a, p, none)) ∧
  (∀ lv br at' pt a p v res, lv < 2 → R (lv + 4) br at' pt dV0 (a, p, some v) → R (8 + lv) br a p v res → R (lv + 3) br at' pt dV0 res) ∧
  (∀ lv br at' pt v, lv < 2 → kd at' ≠ jA lv → R (8 + lv) br at' pt v (at', pt, some v)) ∧
  (∀ lv br at' pt v a p, lv < 2 → kd at' = jA lv → R (lv + 4) br (at' + 1) pt dV0 (a, p, none) → R (8 + lv) br at' pt v (a, p, none)) ∧
  (∀ lv br at' pt v a p w res, lv < 2 → kd at' = jA lv → R (lv + 4) br (at' + 1) pt dV0 (a, p, some w) → R (8 + lv) br a p (jnV (jO lv) v w) res → R (8 + lv) br at' pt v res) ∧
  (∀ br at' pt a p, kd at' = 305 → R 5 br (at' + 1) pt dV0 (a, p, none) → R 5 br at' pt dV0 (a, p, none)) ∧
  (∀ br at' pt a p v, kd at' = 305 → R 5 br (at' + 1) pt dV0 (a, p, some v) → R 5 br at' pt dV0 (a, p, some (notV v))) ∧
  (∀ at' pt, kd at' = 40 → R 5 8 at' pt dV0 (at', pt, none)) ∧
  (∀ br at' pt a p, br < 8 → kd at' = 40 → R 3 (br + 1) (at' + 1) pt dV0 (a, p, none) → R 5 br at' pt dV0 (a, p, none)) ∧
  (∀ br at' pt a p v, br < 8 → kd at' = 40 → R 3 (br + 1) (at' + 1) pt dV0 (a, p, some v) → kd a ≠ 41 → R 5 br at' pt dV0 (a, p, none)) ∧
  (∀ br at' pt a p v, br < 8 → kd at' = 40 → R 3 (br + 1) (at' + 1) pt dV0 (a, p, some v) → kd a = 41 → R 5 br at' pt dV0 (a + 1, p, some v)) ∧
  (∀ br at' pt a p, kd at' ≠ 305 → kd at' ≠ 40 → R 0 br at' pt dV0 (a, p, none) → R 5 br at' pt dV0 (a, p, none)) ∧
  (∀ br at' pt a p v, kd at' ≠ 305 → kd at' ≠ 40 → R 0 br at' pt dV0 (a, p, some v) → ¬ cpK (kd a) → R 5 br at' pt dV0 (a, p, none)) ∧
  (∀ br at' pt a p v a2 p2, kd at' ≠ 305 → kd at' ≠ 40 → R 0 br at' pt dV0 (a, p, some v) → cpK (kd a) → R 0 br (a + 1) p dV0 (a2, p2, none) → R 5 br at' pt dV0 (a2, p2, none)) ∧
  (∀ br at' pt a p v a2 p2 w, kd at' ≠ 305 → kd at' ≠ 40 → R 0 br at' pt dV0 (a, p, some v) → cpK (kd a) → R 0 br (a + 1) p dV0 (a2, p2, some w) → R 5 br at' pt dV0 (a2, p2, some (binV (cpO (kd a)) v w)))
def Der (kd : Nat → Int) (m br at' pt : Nat) (x : SV) (res : Rz) : Prop := ∀ R, RuS kd R → RuT kd R → R m br at' pt x res
section DR
variable {kd : Nat → Int}
theorem Der_S : RuS kd (Der kd) := by
  refine ⟨?_, ?_, ?_, ?_, ?_, ?_, ?_, ?_, ?_, ?_, ?_⟩
  · intro lv br at' pt a p h1 h2 R hS hT; exact hS.1 _ _ _ _ _ _ h1 (h2 R hS hT)
  · intro lv br at' pt a p v res h1 h2 h3 R hS hT; exact hS.2.1 _ _ _ _ _ _ _ _ h1 (h2 R hS hT) (h3 R hS hT)
  · intro lv br at' pt v h1 h2 h3 R hS hT; exact hS.2.2.1 _ _ _ _ _ h1 h2 h3
  · intro lv br at' pt v a p h1 h2 h3 R hS hT; exact hS.2.2.2.1 _ _ _ _ _ _ _ h1 h2 (h3 R hS hT)
  · intro lv br at' pt v a p w res h1 h2 h3 h4 R hS hT; exact hS.2.2.2.2.1 _ _ _ _ _ _ _ _ _ h1 h2 (h3 R hS hT) (h4 R hS hT)
  · intro at' pt h1 R hS hT; exact hS.2.2.2.2.2.1 _ _ h1
  · intro br at' pt a p h1 h2 h3 R hS hT; exact hS.2.2.2.2.2.2.1 _ _ _ _ _ h1 h2 (h3 R hS hT)
  · intro br at' pt a p v h1 h2 h3 h4 R hS hT; exact hS.2.2.2.2.2.2.2.1 _ _ _ _ _ _ h1 h2 (h3 R hS hT) h4
  · intro br at' pt a p v h1 h2 h3 h4 R hS hT; exact hS.2.2.2.2.2.2.2.2.1 _ _ _ _ _ _ h1 h2 (h3 R hS hT) h4
  · intro br at' pt h1 h2 R hS hT; exact hS.2.2.2.2.2.2.2.2.2.1 _ _ _ h1 h2
  · intro br at' pt h1 h2 h3 R hS hT; exact hS.2.2.2.2.2.2.2.2.2.2 _ _ _ h1 h2 h3
theorem Der_T : RuT kd (Der kd) := by
  refine ⟨?_, ?_, ?_, ?_, ?_, ?_, ?_, ?_, ?_, ?_, ?_, ?_, ?_, ?_, ?_⟩
  · intro lv br at' pt a p h1 h2 R hS hT; exact hT.1 _ _ _ _ _ _ h1 (h2 R hS hT)
  · intro lv br at' pt a p v res h1 h2 h3 R hS hT; exact hT.2.1 _ _ _ _ _ _ _ _ h1 (h2 R hS hT) (h3 R hS hT)
  · intro lv br at' pt v h1 h2 R hS hT; exact hT.2.2.1 _ _ _ _ _ h1 h2
  · intro lv br at' pt v a p h1 h2 h3 R hS hT; exact hT.2.2.2.1 _ _ _ _ _ _ _ h1 h2 (h3 R hS hT)
  · intro lv br at' pt v a p w res h1 h2 h3 h4 R hS hT; exact hT.2.2.2.2.1 _ _ _ _ _ _ _ _ _ h1 h2 (h3 R hS hT) (h4 R hS hT)
  · intro br at' pt a p h1 h2 R hS hT; exact hT.2.2.2.2.2.1 _ _ _ _ _ h1 (h2 R hS hT)
  · intro br at' pt a p v h1 h2 R hS hT; exact hT.2.2.2.2.2.2.1 _ _ _ _ _ _ h1 (h2 R hS hT)
  · intro at' pt h1 R hS hT; exact hT.2.2.2.2.2.2.2.1 _ _ h1
  · intro br at' pt a p h1 h2 h3 R hS hT; exact hT.2.2.2.2.2.2.2.2.1 _ _ _ _ _ h1 h2 (h3 R hS hT)
  · intro br at' pt a p v h1 h2 h3 h4 R hS hT; exact hT.2.2.2.2.2.2.2.2.2.1 _ _ _ _ _ _ h1 h2 (h3 R hS hT) h4
  · intro br at' pt a p v h1 h2 h3 h4 R hS hT; exact hT.2.2.2.2.2.2.2.2.2.2.1 _ _ _ _ _ _ h1 h2 (h3 R hS hT) h4
  · intro br at' pt a p h1 h2 h3 R hS hT; exact hT.2.2.2.2.2.2.2.2.2.2.2.1 _ _ _ _ _ h1 h2 (h3 R hS hT)
  · intro br at' pt a p v h1 h2 h3 h4 R hS hT; exact hT.2.2.2.2.2.2.2.2.2.2.2.2.1 _ _ _ _ _ _ h1 h2 (h3 R hS hT) h4
  · intro br at' pt a p v a2 p2 h1 h2 h3 h4 h5 R hS hT; exact hT.2.2.2.2.2.2.2.2.2.2.2.2.2.1 _ _ _ _ _ _ _ _ h1 h2 (h3 R hS hT) h4 (h5 R hS hT)
  · intro br at' pt a p v a2 p2 w h1 h2 h3 h4 h5 R hS hT; exact hT.2.2.2.2.2.2.2.2.2.2.2.2.2.2 _ _ _ _ _ _ _ _ _ h1 h2 (h3 R hS hT) h4 (h5 R hS hT)
end DR
