/-! ===== the machine that reckons clauses: numbers, facts, operations; one for both codes ===== -/
def stk (f : Int → Int) : List Int → Prop
  | [] => True
  | x :: T => f (T.length : Int) = x ∧ stk f T
theorem stk.cg {f g : Int → Int} : ∀ {S : List Int}, stk f S → (∀ i : Int, 0 ≤ i → i < S.length → g i = f i) → stk g S
  | [], _, _ => trivial
  | x :: T, h, hg => ⟨by rw [hg _ (by omega) (by rw [List.length_cons]; omega)]; exact h.1, stk.cg h.2 (fun i h0 h1 => hg i h0 (by rw [List.length_cons]; omega))⟩
theorem stk.bot {f : Int → Int} : ∀ {S : List Int}, stk f S → S ≠ [] → f 0 ∈ S
  | [], _, h => absurd rfl h
  | [x], h, _ => by have := h.1; simp at this; rw [this]; simp
  | x :: y :: T, h, _ => List.mem_cons_of_mem _ (stk.bot h.2 (by simp))
def small (x : Int) : Prop := -1000000000 ≤ x ∧ x ≤ 1000000000
def smallL (S : List Int) : Prop := ∀ x ∈ S, small x
/-- one step: none where it breaks -/
def stp (op ar F : Int → Int) (k : Int) (S : List Int) : Option (Int × List Int) :=
  if op k < 20 then some (k + 1, (if op k = 0 then ar k else F (op k)) :: S)
  else if op k < 27 then (match S with
    | b :: a :: T => if (op k = 23 ∧ b = 0) ∨ rckV (op k) a b < -1000000000 ∨ 1000000000 < rckV (op k) a b then none else some (k + 1, rckV (op k) a b :: T)
    | _ => none)
  else if op k = 27 then (match S with
    | a :: T => some (k + 1, (1 - a) :: T)
    | _ => none)
  else (match S with
    | a :: T => if a = (if op k = 28 then 0 else 1) then some (ar k, a :: T) else some (k + 1, T)
    | _ => none)
/-- what a step asks for -/
def okS (op ar : Int → Int) (k : Int) (S : List Int) : Prop :=
  (0 ≤ op k ∧ op k < 8 ∧ (op k = 0 → 0 ≤ ar k ∧ ar k ≤ 1000)) ∨ (20 ≤ op k ∧ op k < 27 ∧ 2 ≤ S.length) ∨ (27 ≤ op k ∧ op k < 30 ∧ ∃ a T, S = a :: T ∧ (a = 0 ∨ a = 1))
/-- m steps on the way to j, no more than D numbers high -/
def goM (op ar F : Int → Int) (j : Int) (D : Nat) : Nat → Int → List Int → Option (Int × List Int) → Prop
  | 0, k, S, res => res = some (k, S) ∧ k ≤ j
  | m + 1, k, S, res => 0 ≤ k ∧ k < j ∧ S.length ≤ D ∧ (op k < 20 → S.length < D) ∧ okS op ar k S ∧ (match stp op ar F k S with
    | none => res = none
    | some q => k < q.1 ∧ goM op ar F j D m q.1 q.2 res)
def FR (F : Int → Int) : Prop := ∀ i : Int, 1 ≤ i → i < 8 → -1000 ≤ F i ∧ F i ≤ 1000
/-- the code from i to j reckons v, with D numbers at the most -/
def Frg (op ar : Int → Int) (i j : Int) (D : Nat) (v : (Int → Int) → Option Int) : Prop :=
  ∀ F, FR F → ∀ S, smallL S → ∃ m, goM op ar F j (S.length + D) m i S ((v F).map (fun x => (j, x :: S))) ∧ ∀ x, v F = some x → small x
/-- a law: how many clauses, their heads, sums, tests -/
abbrev LSm : Type := Int × (Int → Int) × (Int → (Int → Int) → Option Int) × (Int → (Int → Int) → Option Int)
def hlds (L : LSm) (F : Int → Int) (c : Int) : Option Int := match L.2.2.2 c F with
  | some t => if t = 0 then none else L.2.2.1 c F
  | none => none
def tlF (L : LSm) (F : Int → Int) (hd w : Int) : Nat → Int
  | 0 => w
  | c + 1 => if L.2.1 c = hd then (hlds L F c).getD (tlF L F hd w c) else tlF L F hd w c
def clampV (v most : Int) : Int := if v < 0 then 0 else if most < v then most else v
def askL (L : LSm) (F : Int → Int) (hd : Int) : Int := if hd = 0 then clampV (tlF L F 0 100 L.1.toNat) 100 else clampV (tlF L F hd 0 L.1.toNat) 99
/-- by the row's law in force; sm: the laws' meanings -/
def askV (r : Int → Int) (sm : Int → LSm) (F : Int → Int) (hd : Int) : Int := if r 2 = -1 then (if hd = 0 then 100 else 0) else askL (sm (r 2)) F hd
theorem askV_ok {r : Int → Int} {sm : Int → LSm} {F : Int → Int} {hd : Int} : 0 ≤ askV r sm F hd ∧ askV r sm F hd ≤ 100 ∧ (hd ≠ 0 → askV r sm F hd ≤ 99) := by
  unfold askV askL clampV
  split
  · split <;> omega
  · split
    · split
      · omega
      · split <;> omega
    · split
      · omega
      · split <;> omega
/-- the model's row holds the law L as its l-th -/
def MLaw (r : Int → Int) (l : Int) (L : LSm) : Prop := r (60 + 900 * l + 1) = L.1 ∧ 0 ≤ L.1 ∧ L.1 ≤ 12 ∧ ∀ c : Int, 0 ≤ c → c < L.1 →
  r (60 + 900 * l + 2 + 8 * c) = L.2.1 c ∧ (L.2.1 c = 0 ∨ L.2.1 c = 1) ∧
  (0 ≤ r (60 + 900 * l + 2 + 8 * c + 3) ∧ r (60 + 900 * l + 2 + 8 * c + 3) < r (60 + 900 * l + 2 + 8 * c + 4) ∧ r (60 + 900 * l + 2 + 8 * c + 4) ≤ 400 ∧ Frg (fun k => r (60 + 900 * l + 98 + 2 * k)) (fun k => r (60 + 900 * l + 98 + 2 * k + 1)) (r (60 + 900 * l + 2 + 8 * c + 3)) (r (60 + 900 * l + 2 + 8 * c + 4)) 50 (L.2.2.1 c)) ∧
  (0 ≤ r (60 + 900 * l + 2 + 8 * c + 5) ∧ r (60 + 900 * l + 2 + 8 * c + 5) ≤ r (60 + 900 * l + 2 + 8 * c + 6) ∧ r (60 + 900 * l + 2 + 8 * c + 6) ≤ 400 ∧ ((r (60 + 900 * l + 2 + 8 * c + 5) = r (60 + 900 * l + 2 + 8 * c + 6) ∧ L.2.2.2 c = fun _ => some 1) ∨ (r (60 + 900 * l + 2 + 8 * c + 5) < r (60 + 900 * l + 2 + 8 * c + 6) ∧ Frg (fun k => r (60 + 900 * l + 98 + 2 * k)) (fun k => r (60 + 900 * l + 98 + 2 * k + 1)) (r (60 + 900 * l + 2 + 8 * c + 5)) (r (60 + 900 * l + 2 + 8 * c + 6)) 50 (L.2.2.2 c))))
def MLaws (r : Int → Int) (sm : Int → LSm) : Prop := ∀ l : Int, 0 ≤ l → l < r 1 → MLaw r l (sm l)
/-- frames: only the cells of K have changed -/
def Fr (K : Int → Int → Prop) (M M' : MM) : Prop := mN M' = mN M ∧ (∀ b, mT M' b = mT M b) ∧ ∀ a j, ¬ K a j → rd M' a j = rd M a j
theorem Fr.rf {K : Int → Int → Prop} {M : MM} : Fr K M M := ⟨rfl, fun _ => rfl, fun _ _ _ => rfl⟩
theorem Fr.tr {K : Int → Int → Prop} {M M1 M2 : MM} (h : Fr K M M1) (g : Fr K M1 M2) : Fr K M M2 := ⟨g.1.trans h.1, fun b => (g.2.1 b).trans (h.2.1 b), fun a j q => (g.2.2 a j q).trans (h.2.2 a j q)⟩
theorem Fr.mono {K L : Int → Int → Prop} {M M1 : MM} (h : Fr K M M1) (hk : ∀ a j, K a j → L a j) : Fr L M M1 := ⟨h.1, h.2.1, fun a j q => h.2.2 a j (fun z => q (hk a j z))⟩
theorem Fr.wr {K : Int → Int → Prop} {M M1 : MM} (h : Fr K M M1) {a i v : Int} (hk : K a i) : Fr K M (wr M1 a i v) := ⟨h.1, h.2.1, fun b j q => by rw [rd_wr, if_neg (fun z => q (by rw [z.1, z.2]; exact hk))]; exact h.2.2 b j q⟩
theorem Fr.ch {K : Int → Int → Prop} {M M1 : MM} {a at' : Int} {n : Nat} (h : Ch M M1 a at' n) (hk : ∀ j, at' ≤ j → j < at' + n → K a j) : Fr K M M1 := ⟨h.1, h.2.1, fun b j q => h.2.2 b j (fun z => q (by rw [z.1]; exact hk j z.2.1 z.2.2))⟩
def KA (a j : Int) : Prop := a = 79 ∨ a = 80 ∨ (a = 67 ∧ (j = 26 ∨ j = 29 ∨ j = 30 ∨ j = 31))
theorem len2 {S : List Int} (h : 2 ≤ S.length) : ∃ y x T, S = y :: x :: T := by
  rcases S with _ | ⟨y, _ | ⟨x, T⟩⟩
  · simp at h
  · simp at h
  · exact ⟨y, x, T, rfl⟩
def KA1 (a j : Int) : Prop := a = 80 ∨ (a = 67 ∧ (j = 29 ∨ j = 30))
section EV
variable {G : GG} {d : Nat} {M : MM} {Q : PV → MM → Prop}
theorem rckV_L {op a b : Int} (ha : small a) (hb : small b) : inL (rckV op a b) := by
  have e1 : a * b ≤ 1000000000 * 1000000000 ∧ -(1000000000 * 1000000000) ≤ a * b := by
    have h1 := ha.1; have h2 := ha.2; have h3 := hb.1; have h4 := hb.2
    have p1 : 0 ≤ (1000000000 - a) * (1000000000 - b) := Int.mul_nonneg (by omega) (by omega)
    have p2 : 0 ≤ (1000000000 + a) * (1000000000 + b) := Int.mul_nonneg (by omega) (by omega)
    have p3 : 0 ≤ (1000000000 - a) * (1000000000 + b) := Int.mul_nonneg (by omega) (by omega)
    have p4 : 0 ≤ (1000000000 + a) * (1000000000 - b) := Int.mul_nonneg (by omega) (by omega)
    have q1 : (1000000000 - a) * (1000000000 - b) = 1000000000 * 1000000000 - 1000000000 * a - 1000000000 * b + a * b := by grind
    have q2 : (1000000000 + a) * (1000000000 + b) = 1000000000 * 1000000000 + 1000000000 * a + 1000000000 * b + a * b := by grind
    have q3 : (1000000000 - a) * (1000000000 + b) = 1000000000 * 1000000000 - 1000000000 * a + 1000000000 * b - a * b := by grind
    have q4 : (1000000000 + a) * (1000000000 - b) = 1000000000 * 1000000000 + 1000000000 * a - 1000000000 * b - a * b := by grind
    omega
  have e2 : -1000000000 ≤ Int.tdiv a b ∧ Int.tdiv a b ≤ 1000000000 := by
    have h1 := Int.natAbs_tdiv_le_natAbs a b
    have h2 := ha.1; have h3 := ha.2
    omega
  have h1 := ha.1; have h2 := ha.2; have h3 := hb.1; have h4 := hb.2
  unfold rckV inL
  repeat' split
  all_goals omega
/-- the model's loop follows the machine -/
theorem L_rckAll {F op ar : Int → Int} {i last b : Int} (hop : ∀ k, rd M 69 (b + 98 + 2 * k) = op k) (har : ∀ k, rd M 69 (b + 98 + 2 * k + 1) = ar k) (hb0 : 0 ≤ b) (hb1 : b + 98 + 2 * last ≤ 5460) (hl : 0 ≤ last ∧ last ≤ 400) (hF : FR F) (hd : 2 ≤ d) {D : Nat} (hD : D ≤ 300) {res : Option (Int × List Int)}
    (fin : ∀ M', Fr KA1 M M' → Sh M' → ∀ x, res = some (last, [x]) → rd M' 67 29 = 0 → rd M' 67 30 = x → Q vU M') (brk : res = none → ∀ M', Fr KA1 M M' → Sh M' → rd M' 67 29 = 1 → inL (rd M' 67 30) → Q vU M') (hres : res = none ∨ ∃ x, res = some (last, [x])) :
    ∀ m k S Mk, goM op ar F last D m k S res → Fr KA1 M Mk → Sh Mk → rd Mk 67 29 = 0 → rd Mk 67 26 = b → (∀ i : Int, 1 ≤ i → i < 8 → rd Mk 79 i = F i) → stk (rd Mk 80) S → smallL S →
      X G Y_X12_reckonAll d 0 0 10 [vA 67, vI i, vI last, vI S.length, vI k, vU, vU] [] Mk Q := by
  intro m
  induction m with
  | zero =>
    intro k S Mk hg hf hS h29 h26 hset hst hsm
    obtain ⟨e, hk⟩ := hg
    rcases hres with q | ⟨x, q⟩
    · rw [q] at e; cases e
    · rw [q] at e
      cases e
      refine B_X12_reckonAll_10 hd hS ⟨⟨by omega, by omega⟩, ⟨by omega, by omega⟩, by rw [h29]; exact ⟨by decide, by decide⟩, fun _ => ⟨⟨by simp, by simp⟩, fun M1 e1 hS1 => ?_⟩, fun z => absurd (Or.inl (Int.le_refl _)) z⟩
      have hx : rd Mk 80 0 = x := hst.1
      refine fin M1 (by rw [e1]; exact hf.wr (by unfold KA1; omega)) hS1 x q ?_ ?_
      · rw [e1, rd_wr, if_neg (by omega)]; exact h29
      · rw [e1, rd_wr, if_pos ⟨rfl, rfl⟩, hx]; rfl
  | succ m ih =>
    intro k S Mk hg hf hS h29 h26 hset hst hsm
    obtain ⟨k0, k1, hD1, hD2, hok, hstep⟩ := hg
    have r69 : ∀ j, rd Mk 69 j = rd M 69 j := fun j => hf.2.2 69 j (by unfold KA1; omega)
    have hlen : (S.length : Int) ≤ 300 := by omega
    refine B_X12_reckonAll_10 hd hS ⟨⟨by omega, by omega⟩, ⟨by omega, by omega⟩, by rw [h29]; exact ⟨by decide, by decide⟩, fun z => ?_, fun _ => ?_⟩
    · exfalso; rw [h29] at z; omega
    rw [h26]
    refine ⟨by omega, by omega, fun o eo => ⟨by omega, by omega, fun a ea => ?_⟩⟩
    rw [r69] at eo ea
    rw [hop] at eo
    rw [har] at ea
    unfold okS at hok
    unfold stp at hstep
    rw [← eo] at hok hstep hD2
    rw [← ea] at hok hstep
    rcases hok with ⟨o0, o1, oa⟩ | ⟨o0, o1, h2⟩ | ⟨o0, o1, x, T, rfl, h01⟩
    · -- a number or a fact
      rw [if_pos (by omega)] at hstep
      obtain ⟨-, hgo⟩ := hstep
      refine ⟨⟨by omega, by omega⟩, fun z => by omega, fun _ => ⟨fun z => ⟨by omega, by omega, by omega, by have := hD2 (by omega); omega, fun M1 e1 hS1 => ?_⟩, fun z => ⟨⟨by have := oa z; omega, by have := oa z; omega⟩, by omega, by have := hD2 (by omega); omega, fun M1 e1 hS1 => ?_⟩⟩⟩
      · rw [if_neg z, ← hset o (by omega) (by omega)] at hgo
        have := ih (k + 1) _ M1 hgo (by rw [e1]; exact hf.wr (by unfold KA1; omega)) hS1 (by rw [e1, rd_wr, if_neg (by omega)]; exact h29) (by rw [e1, rd_wr, if_neg (by omega)]; exact h26) (fun i i0 i1 => by rw [e1, rd_wr, if_neg (by omega)]; exact hset i i0 i1) ⟨by rw [e1, rd_wr, if_pos ⟨rfl, rfl⟩], hst.cg (fun i i0 i1 => by rw [e1, rd_wr, if_neg (by omega)])⟩ (fun y hy => by
          rcases List.mem_cons.mp hy with rfl | hy
          · have := hF o (by omega) (by omega); rw [← hset o (by omega) (by omega)] at this; unfold small; omega
          · exact hsm y hy)
        exact this
      · rw [if_pos z] at hgo
        have := ih (k + 1) _ M1 hgo (by rw [e1]; exact hf.wr (by unfold KA1; omega)) hS1 (by rw [e1, rd_wr, if_neg (by omega)]; exact h29) (by rw [e1, rd_wr, if_neg (by omega)]; exact h26) (fun i i0 i1 => by rw [e1, rd_wr, if_neg (by omega)]; exact hset i i0 i1) ⟨by rw [e1, rd_wr, if_pos ⟨rfl, rfl⟩], hst.cg (fun i i0 i1 => by rw [e1, rd_wr, if_neg (by omega)])⟩ (fun y hy => by
          rcases List.mem_cons.mp hy with rfl | hy
          · have := oa z; unfold small; omega
          · exact hsm y hy)
        exact this
    · -- an operation
      obtain ⟨y, x, T, rfl⟩ := len2 h2
      rw [if_neg (by omega), if_pos (by omega)] at hstep
      dsimp only at hstep
      have hx : rd Mk 80 (T.length : Int) = x := hst.2.1
      have hy : rd Mk 80 ((T.length : Int) + 1) = y := by have := hst.1; rw [List.length_cons] at this; exact_mod_cast this
      have sx := hsm x (by simp)
      have sy := hsm y (by simp)
      have eL : (((y :: x :: T).length : Nat) : Int) = (T.length : Int) + 2 := by simp only [List.length_cons]; omega
      rw [eL]
      have e3 : (T.length : Int) + 2 + (-1) - 1 = T.length := by omega
      have e4 : (T.length : Int) + 2 + (-1) = (T.length : Int) + 1 := by omega
      rw [e3, e4, hx, hy]
      rw [eL] at hlen
      refine ⟨⟨by omega, by omega⟩, fun _ => ⟨fun z => by omega, fun _ => ⟨by omega, by omega, by omega, by omega, ⟨by have := sx.1; omega, by have := sx.2; omega⟩, ⟨by have := sy.1; omega, by have := sy.2; omega⟩, fun M1 e1 hS1 M2 e2 hS2 => ?_⟩⟩, fun z => by omega⟩
      have f1 : Fr KA1 M M1 := by
        rw [e1]; unfold rckM
        split
        · exact hf.wr (by unfold KA1; omega)
        · exact hf
      have b29 : rd M2 67 29 = if o = 23 ∧ y = 0 then 1 else 0 := by
        rw [e2, rd_wr, if_neg (by omega), e1]; unfold rckM
        by_cases q : o = 23
        · rw [if_pos q, rd_wr, if_pos ⟨rfl, rfl⟩]; simp [q]
        · rw [if_neg q, h29, if_neg (fun z => q z.1)]
      have b80 : rd M2 80 (T.length : Int) = rckV o x y := by rw [e2, rd_wr, if_pos ⟨rfl, rfl⟩]
      have n80 : ∀ i : Int, 0 ≤ i → i < T.length → rd M2 80 i = rd Mk 80 i := fun i i0 i1 => by
        rw [e2, rd_wr, if_neg (by omega), e1]; unfold rckM
        split
        · rw [rd_wr, if_neg (by omega)]
        · rfl
      have oth : ∀ a j, ¬ (a = 80 ∨ (a = 67 ∧ j = 29)) → rd M2 a j = rd Mk a j := fun a j q => by
        rw [e2, rd_wr, if_neg (by omega), e1]; unfold rckM
        split
        · rw [rd_wr, if_neg (by omega)]
        · rfl
      rw [b80]
      have iL := rckV_L (op := o) sx sy
      have done : ∀ M3, (∃ w, M3 = wr M2 67 29 w ∧ (w = 0 ∨ w = 1) ∧ (w = 1 ↔ ((o = 23 ∧ y = 0) ∨ rckV o x y < -1000000000 ∨ 1000000000 < rckV o x y))) → Sh M3 → X G Y_X12_reckonAll d 0 0 10 [vA 67, vI i, vI last, vI ((T.length : Int) + 1), vI (k + 1), vU, vU] [] M3 Q := by
        rintro M3 ⟨w, e3', hw, hw2⟩ hS3
        have f3 : Fr KA1 M M3 := by rw [e3', e2]; exact ((f1.wr (by unfold KA1; omega))).wr (by unfold KA1; omega)
        have w29 : rd M3 67 29 = w := by rw [e3', rd_wr, if_pos ⟨rfl, rfl⟩]
        by_cases q : (o = 23 ∧ y = 0) ∨ rckV o x y < -1000000000 ∨ 1000000000 < rckV o x y
        · have hw1 := hw2.mpr q
          rw [if_pos q] at hstep
          refine B_X12_reckonAll_10 hd hS3 ⟨⟨by omega, by omega⟩, ⟨by omega, by omega⟩, by rw [w29]; rcases hw with h | h <;> rw [h] <;> exact ⟨by decide, by decide⟩, fun _ => ⟨⟨by omega, by omega⟩, fun M4 e4' hS4 => ?_⟩, fun z => by omega⟩
          refine brk hstep M4 (by rw [e4']; exact f3.wr (by unfold KA1; omega)) hS4 (by rw [e4', rd_wr, if_neg (by omega), w29, hw1]) ?_
          rw [e4', rd_wr, if_pos ⟨rfl, rfl⟩, if_neg (by omega)]
          have hst3 : stk (rd M3 80) (rckV o x y :: T) := ⟨by rw [e3', rd_wr, if_neg (by omega), b80], hst.2.2.cg (fun i i0 i1 => by rw [e3', rd_wr, if_neg (by omega)]; exact n80 i i0 i1)⟩
          rcases List.mem_cons.mp (stk.bot hst3 (by simp)) with e | e
          · rw [e]; exact iL
          · have := hsm _ (List.mem_cons_of_mem _ (List.mem_cons_of_mem _ e))
            exact ⟨by have := this.1; omega, by have := this.2; omega⟩
        · have hw0 : w = 0 := by
            rcases hw with h | h
            · exact h
            · exact absurd (hw2.mp h) q
          rw [if_neg q] at hstep
          obtain ⟨-, hgo⟩ := hstep
          have := ih (k + 1) _ M3 hgo f3 hS3 (by rw [w29, hw0]) (by rw [e3', rd_wr, if_neg (by omega), oth _ _ (by omega)]; exact h26) (fun i i0 i1 => by rw [e3', rd_wr, if_neg (by omega), oth _ _ (by omega)]; exact hset i i0 i1) ⟨by rw [e3', rd_wr, if_neg (by omega), b80], hst.2.2.cg (fun i i0 i1 => by rw [e3', rd_wr, if_neg (by omega)]; exact n80 i i0 i1)⟩ (fun z hz => by
            rcases List.mem_cons.mp hz with rfl | hz
            · unfold small; omega
            · exact hsm z (by simp [hz]))
          rw [show (((rckV o x y :: T).length : Nat) : Int) = (T.length : Int) + 1 by simp only [List.length_cons]; omega] at this
          exact this
      refine ⟨by rw [b29]; split <;> exact ⟨by decide, by decide⟩, fun z M3 e3' hS3 => done M3 ⟨1, e3', Or.inr rfl, ?_⟩ hS3, fun z => ⟨iL, fun M3 e3' hS3 => done M3 ⟨_, e3', ?_, ?_⟩ hS3⟩⟩
      · rw [b29] at z
        refine ⟨fun _ => Or.inl ?_, fun _ => rfl⟩
        by_cases q : o = 23 ∧ y = 0
        · exact q
        · rw [if_neg q] at z; exact absurd rfl z
      · split
        · exact Or.inr rfl
        · exact Or.inl rfl
      · rw [b29] at z
        have q : ¬ (o = 23 ∧ y = 0) := fun q => by rw [if_pos q] at z; exact absurd z (by decide)
        by_cases w : -1000000000 ≤ rckV o x y ∧ rckV o x y ≤ 1000000000
        · rw [if_neg (fun h => h w)]; constructor
          · intro h; omega
          · intro h; omega
        · rw [if_pos w]; exact ⟨fun _ => by omega, fun _ => rfl⟩
    · -- not, and, or
      rw [if_neg (by omega), if_neg (by omega)] at hstep
      dsimp only at hstep
      have hx : rd Mk 80 (T.length : Int) = x := hst.1
      have eL : (((x :: T).length : Nat) : Int) = (T.length : Int) + 1 := by simp only [List.length_cons]; omega
      rw [eL] at hlen ⊢
      have e3 : (T.length : Int) + 1 - 1 = T.length := by omega
      have e4 : (T.length : Int) + 1 + (-1) = T.length := by omega
      rw [e3, e4, hx]
      refine ⟨⟨by omega, by omega⟩, fun _ => ⟨fun _ => ⟨fun z => ⟨by omega, by omega, ⟨by omega, by omega⟩, by split <;> exact ⟨by decide, by decide⟩, fun q => ?_, fun q => ?_⟩, fun z => ⟨by omega, by omega, fun M1 e1 hS1 => ?_⟩⟩, fun z => by omega⟩, fun z => by omega⟩
      · rw [if_neg z] at hstep
        have q2 : ¬ x = (if o = 28 then 0 else 1) := by
          intro h; apply q; rw [h]; by_cases w : o = 28 <;> simp [w]
        rw [if_neg q2] at hstep
        obtain ⟨-, hgo⟩ := hstep
        exact ih (k + 1) T Mk hgo hf hS h29 h26 hset hst.2 (fun z hz => hsm z (by simp [hz]))
      · rw [if_neg z] at hstep
        have q2 : x = (if o = 28 then 0 else 1) := by
          rw [q]; by_cases w : o = 28 <;> simp [w]
        rw [if_pos q2] at hstep
        obtain ⟨-, hgo⟩ := hstep
        have := ih a (x :: T) Mk hgo hf hS h29 h26 hset hst hsm
        rw [eL] at this
        exact this
      · rw [if_pos z] at hstep
        obtain ⟨-, hgo⟩ := hstep
        have := ih (k + 1) _ M1 hgo (by rw [e1]; exact hf.wr (by unfold KA1; omega)) hS1 (by rw [e1, rd_wr, if_neg (by omega)]; exact h29) (by rw [e1, rd_wr, if_neg (by omega)]; exact h26) (fun i i0 i1 => by rw [e1, rd_wr, if_neg (by omega)]; exact hset i i0 i1) ⟨by rw [e1, rd_wr, if_pos ⟨rfl, rfl⟩], hst.2.cg (fun i i0 i1 => by rw [e1, rd_wr, if_neg (by omega)])⟩ (fun y hy => by
          rcases List.mem_cons.mp hy with rfl | hy
          · unfold small; omega
          · exact hsm y (by simp [hy]))
        rw [show ((((1 - x) :: T).length : Nat) : Int) = (T.length : Int) + 1 by simp only [List.length_cons]; omega] at this
        exact this
end EV
