/-! ===== the model's pile ===== -/
abbrev Pil : Type := List (Int × Int)
abbrev Cdd : Type := (Int → Int) × (Int → Int) × Int
def upF (f : Int → Int) (i v : Int) : Int → Int := fun k => if k = i then v else f k
def bnd12 (x0 : Int) : Int := if x0 < 30 then (if x0 ≠ 29 then (if x0 ≠ 28 then (if x0 ≠ 27 then (if x0 < 24 then (if x0 < 22 then 5 else 6) else 4) else 3) else 2) else 1) else 0
def cntP : Pil → Nat
  | [] => 0
  | e :: π => (if e.1 = 28 ∨ e.1 = 29 then 0 else 1) + cntP π
def PlM (M : MM) : Pil → Prop
  | [] => True
  | e :: π => rd M 76 π.length = e.1 ∧ rd M 77 π.length = e.2 ∧ PlM M π
def OkP (π : Pil) : Prop := ∀ e ∈ π, 20 ≤ e.1 ∧ e.1 ≤ 31 ∧ ((e.1 = 28 ∨ e.1 = 29) → 0 ≤ e.2 ∧ e.2 < 400)
def stl1 (e : Int × Int) (c : Cdd) : Cdd := if e.1 = 28 ∨ e.1 = 29 then (c.1, upF c.2.1 e.2 c.2.2, c.2.2) else (upF c.1 c.2.2 e.1, upF c.2.1 c.2.2 0, c.2.2 + 1)
def stl : Pil → Cdd → Cdd
  | [], c => c
  | e :: ρ, c => stl ρ (stl1 e c)
theorem stl_app : ∀ (ρ σ : Pil) (c : Cdd), stl (ρ ++ σ) c = stl σ (stl ρ c)
  | [], _, _ => rfl
  | e :: ρ, σ, c => stl_app ρ σ (stl1 e c)
theorem cntP_app : ∀ (ρ σ : Pil), cntP (ρ ++ σ) = cntP ρ + cntP σ
  | [], σ => by simp [cntP]
  | e :: ρ, σ => by simp only [List.cons_append, cntP]; rw [cntP_app ρ σ]; omega
theorem PlM.suf {M : MM} : ∀ (ρ σ : Pil), PlM M (ρ ++ σ) → PlM M σ
  | [], _, h => h
  | _ :: ρ, σ, h => PlM.suf ρ σ h.2.2
theorem PlM.fr {M M' : MM} : ∀ (π : Pil), PlM M π → (∀ j : Int, 0 ≤ j → j < π.length → rd M' 76 j = rd M 76 j ∧ rd M' 77 j = rd M 77 j) → PlM M' π
  | [], _, _ => trivial
  | e :: π, h, hq => by
    have q := hq π.length (by omega) (by simp only [List.length_cons]; omega)
    exact ⟨q.1.trans h.1, q.2.trans h.2.1, PlM.fr π h.2.2 (fun j j0 j1 => hq j j0 (by simp only [List.length_cons]; omega))⟩
theorem OkP.suf {ρ σ : Pil} (h : OkP (ρ ++ σ)) : OkP σ := fun e he => h e (List.mem_append_right _ he)
theorem OkP.cons {e : Int × Int} {π : Pil} (h : OkP π) (h1 : 20 ≤ e.1) (h2 : e.1 ≤ 31) (h3 : (e.1 = 28 ∨ e.1 = 29) → 0 ≤ e.2 ∧ e.2 < 400) : OkP (e :: π) := fun x hx => by
  rcases List.mem_cons.mp hx with y | y
  · rw [y]; exact ⟨h1, h2, h3⟩
  · exact h x y
theorem stl_n : ∀ (ρ : Pil) (c : Cdd), (stl ρ c).2.2 = c.2.2 + cntP ρ
  | [], c => by show c.2.2 = c.2.2 + ((0 : Nat) : Int); omega
  | e :: ρ, c => by
    rw [stl, stl_n ρ (stl1 e c), cntP]
    unfold stl1
    split
    · dsimp only; omega
    · dsimp only; push_cast; omega
theorem stl_keep {s0 : Int} : ∀ (ρ : Pil) (c : Cdd), s0 ≤ c.2.2 → (∀ e ∈ ρ, (e.1 = 28 ∨ e.1 = 29) → s0 ≤ e.2) → ∀ k : Int, k < s0 → (stl ρ c).1 k = c.1 k ∧ (stl ρ c).2.1 k = c.2.1 k
  | [], _, _, _, _, _ => ⟨rfl, rfl⟩
  | e :: ρ, c, hn, he, k, hk => by
    have h0 := he e (List.mem_cons_self ..)
    have ih := stl_keep (s0 := s0) ρ (stl1 e c) (by unfold stl1; split <;> dsimp only <;> omega) (fun x hx => he x (List.mem_cons_of_mem _ hx)) k hk
    rw [stl, ih.1, ih.2]
    unfold stl1 upF
    split
    · rename_i q
      have := h0 q
      dsimp only
      exact ⟨rfl, if_neg (by omega)⟩
    · dsimp only
      exact ⟨if_neg (by omega), if_neg (by omega)⟩
theorem Frg.lt {op ar : Int → Int} {i j : Int} {D : Nat} {v : SV} (h : Frg op ar i j D v) : i < j ∧ 0 ≤ i := by
  obtain ⟨m, g, _⟩ := h (fun _ => 0) (fun _ _ _ => ⟨by show (-1000 : Int) ≤ 0; decide, by show (0 : Int) ≤ 1000; decide⟩) [] (fun x hx => by cases hx)
  cases m with
  | zero =>
    have := g.1
    cases hv : v (fun _ => 0) with
    | none => rw [hv] at this; cases this
    | some x => rw [hv] at this; simp at this
  | succ m => exact ⟨g.2.1, g.1⟩
/-- a value whose last orders still lie on the pile -/
def PEn (M : MM) (lv : Int) (s0 n : Nat) (ρ : Pil) (D : Nat) (v : SV) : Prop := s0 ≤ n ∧ (∀ e ∈ ρ, lv ≤ bnd12 e.1 ∧ 20 ≤ e.1 ∧ e.1 < 30 ∧ ((e.1 = 28 ∨ e.1 = 29) → (s0 : Int) ≤ e.2)) ∧ Frg (stl ρ (rd M 74, rd M 75, (n : Int))).1 (stl ρ (rd M 74, rd M 75, (n : Int))).2.1 s0 (stl ρ (rd M 74, rd M 75, (n : Int))).2.2 D v
def CdS (n : Nat) (M M' : MM) : Prop := ∀ k : Int, k < n → rd M' 74 k = rd M 74 k ∧ rd M' 75 k = rd M 75 k
theorem CdS.tr {n n' : Nat} {M M1 M2 : MM} (h : CdS n M M1) (g : CdS n' M1 M2) (hn : n ≤ n') : CdS n M M2 := fun k hk => ⟨((g k (by omega)).1).trans (h k hk).1, ((g k (by omega)).2).trans (h k hk).2⟩
section PE
variable {M M1 M2 : MM} {lv lv' o : Int} {n0 n1 n2 D D1 D2 : Nat} {ρ : Pil} {v w : SV}
theorem PEn.mono (h : PEn M lv n0 n1 ρ D v) (hl : lv' ≤ lv) : PEn M lv' n0 n1 ρ D v := ⟨h.1, fun e he => ⟨by have := (h.2.1 e he).1; omega, (h.2.1 e he).2⟩, h.2.2⟩
theorem PEn.nil (h0 : n0 ≤ n1) (h : Frg (rd M 74) (rd M 75) n0 n1 D v) : PEn M lv n0 n1 [] D v := ⟨h0, (fun e he => by cases he), h⟩
theorem PEn_bin (hu : Frg (rd M1 74) (rd M1 75) n0 n1 D1 v) (hD1 : 1 ≤ D1) (hD2 : 1 ≤ D2) (hc : CdS n1 M1 M2) (hw : PEn M2 lv' n1 n2 ρ D2 w) (hl : lv ≤ lv') (hlo : lv ≤ bnd12 o) (ho : 20 ≤ o ∧ o < 27) : PEn M2 lv n0 n2 (ρ ++ [(o, 0)]) (D1 + D2) (binV o v w) := by
  obtain ⟨h1, h2, h3⟩ := hw
  have hul := hu.lt
  have hk := stl_keep (s0 := (n1 : Int)) ρ (rd M2 74, rd M2 75, (n2 : Int)) (by show (n1 : Int) ≤ n2; omega) (fun e he => (h2 e he).2.2.2)
  have hn := stl_n ρ (rd M2 74, rd M2 75, (n2 : Int))
  refine ⟨by omega, fun e he => ?_, ?_⟩
  · rcases List.mem_append.mp he with y | y
    · have := h2 e y
      exact ⟨by omega, this.2.1, this.2.2.1, fun z => by have := this.2.2.2 z; omega⟩
    · have : e = (o, 0) := by simpa using y
      subst this
      exact ⟨hlo, ho.1, by show o < 30; omega, fun z => by dsimp only at z; omega⟩
  · rw [stl_app]
    generalize hE : stl ρ (rd M2 74, rd M2 75, (n2 : Int)) = c at h3 hk hn ⊢
    obtain ⟨cp, ca, cn⟩ := c
    dsimp only at h3 hk hn ⊢
    have e1 : stl [(o, 0)] (cp, ca, cn) = (upF cp cn o, upF ca cn 0, cn + 1) := by
      show stl1 (o, 0) (cp, ca, cn) = _
      unfold stl1
      rw [if_neg (by dsimp only; omega)]
    rw [e1]
    have h3l := h3.lt
    have fu : Frg (upF cp cn o) (upF ca cn 0) n0 n1 D1 v := hu.cg (fun k k0 k1 => by
      unfold upF
      rw [if_neg (by omega), if_neg (by omega), (hk k k1).1, (hk k k1).2]
      exact hc k k1)
    have fw : Frg (upF cp cn o) (upF ca cn 0) n1 cn D2 w := h3.cg (fun k k0 k1 => by
      unfold upF
      rw [if_neg (by omega), if_neg (by omega)]
      exact ⟨rfl, rfl⟩)
    have eo : upF cp cn o cn = o := if_pos rfl
    have fb := Frg_bin (by omega) (by omega) (by omega) hD1 hD2 fu fw (by rw [eo]; exact ho)
    rw [eo] at fb
    exact fb
theorem PEn_not (hw : PEn M2 lv' n1 n2 ρ D w) (hz : z01 w) (hD : 1 ≤ D) (hl : lv ≤ lv') (hl3 : lv ≤ 3) : PEn M2 lv n1 n2 (ρ ++ [(27, 0)]) D (notV w) := by
  obtain ⟨h1, h2, h3⟩ := hw
  refine ⟨h1, fun e he => ?_, ?_⟩
  · rcases List.mem_append.mp he with y | y
    · have := h2 e y
      exact ⟨by omega, this.2⟩
    · have : e = (27, 0) := by simpa using y
      subst this
      exact ⟨by show lv ≤ bnd12 27; rw [show bnd12 27 = 3 by decide]; exact hl3, by decide, by decide, fun z => absurd z (by decide)⟩
  · rw [stl_app]
    generalize hE : stl ρ (rd M2 74, rd M2 75, (n2 : Int)) = c at h3 ⊢
    obtain ⟨cp, ca, cn⟩ := c
    dsimp only at h3 ⊢
    have e1 : stl [(27, 0)] (cp, ca, cn) = (upF cp cn 27, upF ca cn 0, cn + 1) := rfl
    rw [e1]
    have h3l := h3.lt
    have fw : Frg (upF cp cn 27) (upF ca cn 0) n1 cn D w := h3.cg (fun k k0 k1 => by
      unfold upF
      rw [if_neg (by omega), if_neg (by omega)]
      exact ⟨rfl, rfl⟩)
    exact Frg_not (by omega) (by omega) hD fw hz (if_pos rfl)
theorem PEn_jn (hu : Frg (rd M1 74) (rd M1 75) n0 n1 D1 v) (hz : z01 v) (hD1 : 1 ≤ D1) (hc : CdS n1 M1 M2) (ho1 : rd M2 74 n1 = o) (hw : PEn M2 lv' (n1 + 1) n2 ρ D2 w) (hl : lv ≤ lv') (hlo : lv ≤ bnd12 o) (ho : o = 28 ∨ o = 29) : PEn M2 lv n0 n2 (ρ ++ [(o, (n1 : Int))]) (D1 + D2) (jnV o v w) := by
  obtain ⟨h1, h2, h3⟩ := hw
  have hul := hu.lt
  have hk := stl_keep (s0 := ((n1 + 1 : Nat) : Int)) ρ (rd M2 74, rd M2 75, (n2 : Int)) (by show ((n1 + 1 : Nat) : Int) ≤ n2; omega) (fun e he => (h2 e he).2.2.2)
  have hn := stl_n ρ (rd M2 74, rd M2 75, (n2 : Int))
  refine ⟨by omega, fun e he => ?_, ?_⟩
  · rcases List.mem_append.mp he with y | y
    · have := h2 e y
      exact ⟨by omega, this.2.1, this.2.2.1, fun z => by have := this.2.2.2 z; omega⟩
    · have : e = (o, (n1 : Int)) := by simpa using y
      subst this
      exact ⟨hlo, by show 20 ≤ o; omega, by show o < 30; omega, fun _ => by show (n0 : Int) ≤ n1; omega⟩
  · rw [stl_app]
    generalize hE : stl ρ (rd M2 74, rd M2 75, (n2 : Int)) = c at h3 hk hn ⊢
    obtain ⟨cp, ca, cn⟩ := c
    dsimp only at h3 hk hn ⊢
    have e1 : stl [(o, (n1 : Int))] (cp, ca, cn) = (cp, upF ca n1 cn, cn) := by
      show stl1 (o, (n1 : Int)) (cp, ca, cn) = _
      unfold stl1
      rw [if_pos ho]
    rw [e1]
    have h3l := h3.lt
    have fu : Frg cp (upF ca n1 cn) n0 n1 D1 v := hu.cg (fun k k0 k1 => by
      unfold upF
      rw [if_neg (by omega), (hk k (by omega)).1, (hk k (by omega)).2]
      exact hc k k1)
    have fw : Frg cp (upF ca n1 cn) ((n1 : Int) + 1) cn D2 w := by
      rw [show ((n1 + 1 : Nat) : Int) = (n1 : Int) + 1 by omega] at h3
      exact h3.cg (fun k k0 k1 => by
        unfold upF
        rw [if_neg (by omega)]
        exact ⟨rfl, rfl⟩)
    have eo : cp n1 = o := by rw [(hk n1 (by omega)).1]; exact ho1
    have fb := Frg_jn (by omega) (by omega) (by omega) hD1 fu hz fw (by rw [eo]; exact ho) (if_pos rfl)
    rw [eo] at fb
    exact fb
end PE
def topB : Pil → Int
  | [] => -1
  | e :: _ => bnd12 e.1
def inrP : Pil → Int
  | [] => -1
  | e :: π => if 30 ≤ e.1 then e.1 else inrP π
theorem inrP_app {π : Pil} : ∀ (ρ : Pil), (∀ e ∈ ρ, e.1 < 30) → inrP (ρ ++ π) = inrP π
  | [], _ => rfl
  | e :: ρ, h => by
    show (if 30 ≤ e.1 then e.1 else inrP (ρ ++ π)) = _
    rw [if_neg (by have := h e (List.mem_cons_self ..); omega)]
    exact inrP_app ρ (fun x hx => h x (List.mem_cons_of_mem _ hx))
theorem inrP_r {π : Pil} (h : OkP π) : inrP π = -1 ∨ inrP π = 30 ∨ inrP π = 31 := by
  induction π with
  | nil => exact Or.inl rfl
  | cons e π ih =>
    have he := h e (List.mem_cons_self ..)
    show (if 30 ≤ e.1 then e.1 else inrP π) = -1 ∨ (if 30 ≤ e.1 then e.1 else inrP π) = 30 ∨ (if 30 ≤ e.1 then e.1 else inrP π) = 31
    split
    · omega
    · exact ih (fun x hx => h x (List.mem_cons_of_mem _ hx))
theorem rd_upF {M : MM} {a i v : Int} : (rd (wr M a i v) a) = upF (rd M a) i v := by
  funext k
  rw [rd_wr]
  unfold upF
  by_cases q : k = i
  · rw [if_pos ⟨rfl, q⟩, if_pos q]
  · rw [if_neg (fun z => q z.2), if_neg q]
def KSe (a j : Int) : Prop := a = 74 ∨ a = 75 ∨ (a = 67 ∧ (j = 17 ∨ j = 23))
section PM
variable {G : GG} {d : Nat} {M M0 : MM} {Q : PV → MM → Prop}
theorem T_X12_emit {o t : Int} {n : Nat} (hd : 1 ≤ d) (hS : Sh M) (e17 : rd M 67 17 = n) (hn : (n : Int) < 400) (h : ∀ M', Sh M' → Fr KSe M M' → rd M' 74 = upF (rd M 74) n o → rd M' 75 = upF (rd M 75) n t → rd M' 67 17 = (n : Int) + 1 → rd M' 67 23 = rd M 67 23 → Q vU M') : C G Y_X12_emit d 0 0 [vA 67, vI o, vI t] M Q := by
  refine C_X12_emit (B_X12_emit_0 hd hS ⟨by omega, by omega, fun M3 e3 s3 => ?_⟩)
  have r3 : rd M3 67 17 = n := by rw [e3, rd_wr, if_neg (by omega)]; exact e17
  rw [r3]
  refine ⟨by omega, hn, fun M6 e6 s6 M7 e7 s7 => ?_⟩
  have r6 : rd M6 67 17 = n := by rw [e6, rd_wr, if_neg (by omega)]; exact r3
  rw [r6] at e7
  rw [e17] at e3
  refine h M7 s7 ?_ ?_ ?_ ?_ ?_
  · rw [e7, e6, e3]; exact ((Fr.rf.wr (Or.inl rfl)).wr (Or.inr (Or.inl rfl))).wr (Or.inr (Or.inr ⟨rfl, Or.inl rfl⟩))
  · funext k
    rw [e7, rd_wr, if_neg (by omega), e6, rd_wr, if_neg (by omega), e3, rd_upF]
  · have c3 : rd M3 75 = rd M 75 := by funext k; rw [e3, rd_wr, if_neg (by omega)]
    funext k
    rw [e7, rd_wr, if_neg (by omega), e6, rd_upF, c3]
  · rw [e7, rd_wr, if_pos ⟨rfl, rfl⟩]
  · rw [e7, rd_wr, if_neg (by omega), e6, rd_wr, if_neg (by omega), e3, rd_wr, if_neg (by omega)]
def KPu (a j : Int) : Prop := a = 76 ∨ a = 77 ∨ (a = 67 ∧ j = 23)
theorem T_X12_push {o t : Int} {π : Pil} (hd : 1 ≤ d) (hS : Sh M) (e23 : rd M 67 23 = π.length) (hl : (π.length : Int) < 400) (hP : PlM M π) (h : ∀ M', Sh M' → Fr KPu M M' → rd M' 67 23 = ((o, t) :: π).length → PlM M' ((o, t) :: π) → Q vU M') : C G Y_X12_push d 0 0 [vA 67, vI o, vI t] M Q := by
  refine C_X12_push (B_X12_push_0 hd hS ⟨by omega, by omega, fun M3 e3 s3 => ?_⟩)
  have r3 : rd M3 67 23 = π.length := by rw [e3, rd_wr, if_neg (by omega)]; exact e23
  rw [r3]
  refine ⟨by omega, hl, fun M6 e6 s6 M7 e7 s7 => ?_⟩
  have r6 : rd M6 67 23 = π.length := by rw [e6, rd_wr, if_neg (by omega)]; exact r3
  rw [r6] at e7
  rw [e23] at e3
  refine h M7 s7 ?_ ?_ ⟨?_, ?_, ?_⟩
  · rw [e7, e6, e3]; exact ((Fr.rf.wr (Or.inl rfl)).wr (Or.inr (Or.inl rfl))).wr (Or.inr (Or.inr ⟨rfl, rfl⟩))
  · rw [e7, rd_wr, if_pos ⟨rfl, rfl⟩]; simp
  · rw [e7, rd_wr, if_neg (by omega), e6, rd_wr, if_neg (by omega), e3, rd_wr, if_pos ⟨rfl, rfl⟩]
  · rw [e7, rd_wr, if_neg (by omega), e6, rd_wr, if_pos ⟨rfl, rfl⟩]
  · refine PlM.fr π hP (fun j j0 j1 => ⟨?_, ?_⟩)
    · rw [e7, rd_wr, if_neg (by omega), e6, rd_wr, if_neg (by omega), e3, rd_wr, if_neg (by omega)]
    · rw [e7, rd_wr, if_neg (by omega), e6, rd_wr, if_neg (by omega), e3, rd_wr, if_neg (by omega)]
theorem bnd12_r {o : Int} : inR (bnd12 o) ∧ 0 ≤ bnd12 o := by
  have : 0 ≤ bnd12 o ∧ bnd12 o ≤ 6 := by
    unfold bnd12
    split
    · split
      · split
        · split
          · split
            · split <;> decide
            · decide
          · decide
        · decide
      · decide
    · decide
  exact ⟨⟨by omega, by omega⟩, this.1⟩
theorem settle_x {k n : Nat} {lv : Int} {π : Pil} (hd : 2 ≤ d) (hlv : inR lv) (ht : topB π < lv) : ∀ (ρ : Pil) (M : MM) (s : Nat), Sh M → rd M 67 23 = (ρ ++ π).length → PlM M (ρ ++ π) → OkP (ρ ++ π) → (∀ e ∈ ρ, lv ≤ bnd12 e.1) → rd M 67 17 = s → s + cntP ρ ≤ 400 → (ρ ++ π).length ≤ 400 →
    (∀ M', Sh M' → Fr KSe M M' → rd M' 67 23 = π.length → rd M' 67 17 = (s : Int) + cntP ρ → (rd M' 74, rd M' 75, rd M' 67 17) = stl ρ (rd M 74, rd M 75, (s : Int)) → Q vU M') → X G Y_X12_settle d k n 0 [vA 67, vI lv] [] M Q
  | [], M, s, hS, e23, hP, hO, hb, e17, hc, hl, h => by
    have fin : Q vU M := h M hS Fr.rf e23 (by rw [e17]; show (s : Int) = s + ((0 : Nat) : Int); omega) (by rw [e17]; rfl)
    rw [List.nil_append] at e23 hP hO hl
    refine B_X12_settle_0 hd hS ⟨by rw [e23]; exact ⟨by omega, by omega⟩, fun _ => fin, fun w => ?_⟩
    cases π with
    | nil => rw [e23] at w; exact absurd w (by decide)
    | cons e π =>
      have e1 : rd M 67 23 - 1 = π.length := by rw [e23]; simp only [List.length_cons]; omega
      have he := hO e (List.mem_cons_self ..)
      have eb : bnd12 (rd M 76 (rd M 67 23 - 1)) = bnd12 e.1 := by rw [e1, hP.1]
      have ht' : bnd12 e.1 < lv := ht
      refine ⟨by omega, by rw [e1]; simp only [List.length_cons] at hl; omega, by rw [e1, hP.1]; exact ⟨by omega, by omega⟩, bnd12_r.1, hlv, fun _ => fin, fun w => ?_⟩
      have w' : lv ≤ bnd12 (rd M 76 (rd M 67 23 - 1)) := w
      omega
  | e :: ρ, M, s, hS, e23, hP, hO, hb, e17, hc, hl, h => by
    have hlen : ((e :: ρ) ++ π).length = (ρ ++ π).length + 1 := rfl
    rw [hlen] at e23 hl
    have e1 : rd M 67 23 - 1 = (ρ ++ π).length := by rw [e23]; omega
    have he := hO e (List.mem_cons_self ..)
    have hbe := hb e (List.mem_cons_self ..)
    have hP' : PlM M (e :: (ρ ++ π)) := hP
    have hO' : OkP (ρ ++ π) := fun x hx => hO x (List.mem_cons_of_mem _ hx)
    have hcn : cntP (e :: ρ) = (if e.1 = 28 ∨ e.1 = 29 then 0 else 1) + cntP ρ := rfl
    have eb : bnd12 (rd M 76 (rd M 67 23 - 1)) = bnd12 e.1 := by rw [e1, hP'.1]
    refine B_X12_settle_0 hd hS ⟨by rw [e23]; exact ⟨by omega, by omega⟩, fun w => by rw [e23] at w; omega, fun _ => ⟨by omega, by omega, by rw [e1, hP'.1]; exact ⟨by omega, by omega⟩, bnd12_r.1, hlv, fun w => ?_, fun _ M7 e7 s7 => ?_⟩⟩
    · have w' : bnd12 (rd M 76 (rd M 67 23 - 1)) < lv := w
      omega
    · have r7 : rd M7 67 23 = (ρ ++ π).length := by rw [e7, rd_wr, if_pos ⟨rfl, rfl⟩, e1]
      have p7 : rd M7 76 (ρ ++ π).length = e.1 := by rw [e7, rd_wr, if_neg (by omega)]; exact hP'.1
      have t7 : rd M7 77 (ρ ++ π).length = e.2 := by rw [e7, rd_wr, if_neg (by omega)]; exact hP'.2.1
      have n7 : rd M7 67 17 = s := by rw [e7, rd_wr, if_neg (by omega)]; exact e17
      have F7 : Fr KSe M M7 := by rw [e7]; exact Fr.rf.wr (Or.inr (Or.inr ⟨rfl, Or.inr rfl⟩))
      have P7 : PlM M7 (ρ ++ π) := PlM.fr _ hP'.2.2 (fun j _ _ => ⟨by rw [e7, rd_wr, if_neg (by omega)], by rw [e7, rd_wr, if_neg (by omega)]⟩)
      have c74 : rd M7 74 = rd M 74 := by funext k; rw [e7, rd_wr, if_neg (by omega)]
      have c75 : rd M7 75 = rd M 75 := by funext k; rw [e7, rd_wr, if_neg (by omega)]
      rw [r7, p7, t7, n7]
      have jn : (e.1 = 28 ∨ e.1 = 29) → ∀ M13, M13 = wr M7 75 e.2 s → Sh M13 → X G Y_X12_settle d k n 0 [vA 67, vI lv] [] M13 Q := by
        intro hj M13 e13 s13
        rw [if_pos hj] at hcn
        have F13 : Fr KSe M7 M13 := by rw [e13]; exact Fr.rf.wr (Or.inr (Or.inl rfl))
        refine settle_x hd hlv ht ρ M13 s s13 (by rw [e13, rd_wr, if_neg (by omega)]; exact r7) (PlM.fr _ P7 (fun j _ _ => ⟨by rw [e13, rd_wr, if_neg (by omega)], by rw [e13, rd_wr, if_neg (by omega)]⟩)) hO' (fun x hx => hb x (List.mem_cons_of_mem _ hx)) (by rw [e13, rd_wr, if_neg (by omega)]; exact n7) (by omega) (by omega) (fun M' s' F' g1 g2 g3 => h M' s' ((F7.tr F13).tr F') g1 (by rw [g2, hcn]; omega) ?_)
        rw [g3, stl]
        congr 1
        unfold stl1
        rw [if_pos hj]
        have a1 : rd M13 74 = rd M 74 := by funext k; rw [e13, rd_wr, if_neg (by omega)]; exact congrFun c74 k
        have a2 : rd M13 75 = upF (rd M 75) e.2 s := by rw [e13, rd_upF, c75]
        rw [a1, a2]
      refine ⟨by omega, by omega, ⟨by omega, by omega⟩, fun q => ⟨(he.2.2 (Or.inl q)).1, (he.2.2 (Or.inl q)).2, jn (Or.inl q)⟩, fun q1 => ⟨fun q2 => ?_, fun q => ⟨(he.2.2 (Or.inr q)).1, (he.2.2 (Or.inr q)).2, jn (Or.inr q)⟩⟩⟩
      rw [if_neg (by omega)] at hcn
      refine T_X12_emit (by omega) s7 n7 (by omega) (fun M14 s14 F14 a1 a2 a3 a4 => ⟨s14, ?_⟩)
      refine settle_x hd hlv ht ρ M14 (s + 1) s14 (by rw [a4]; exact r7) (PlM.fr _ P7 (fun j _ _ => ⟨F14.2.2 76 j (by unfold KSe; omega), F14.2.2 77 j (by unfold KSe; omega)⟩)) hO' (fun x hx => hb x (List.mem_cons_of_mem _ hx)) (by rw [a3]; omega) (by omega) (by omega) (fun M' s' F' g1 g2 g3 => h M' s' ((F7.tr F14).tr F') g1 (by rw [g2, hcn]; push_cast; omega) ?_)
      rw [g3, stl]
      congr 1
      unfold stl1
      rw [if_neg (by omega), a1, a2, c74, c75]
      rfl
theorem T_X12_settle {lv : Int} {ρ π : Pil} {s : Nat} (hd : 2 ≤ d) (hlv : inR lv) (ht : topB π < lv) (hS : Sh M) (e23 : rd M 67 23 = (ρ ++ π).length) (hP : PlM M (ρ ++ π)) (hO : OkP (ρ ++ π)) (hb : ∀ e ∈ ρ, lv ≤ bnd12 e.1) (e17 : rd M 67 17 = s) (hc : s + cntP ρ ≤ 400) (hl : (ρ ++ π).length ≤ 400) (h : ∀ M', Sh M' → Fr KSe M M' → rd M' 67 23 = π.length → rd M' 67 17 = (s : Int) + cntP ρ → (rd M' 74, rd M' 75, rd M' 67 17) = stl ρ (rd M 74, rd M 75, (s : Int)) → Q vU M') : C G Y_X12_settle d 0 0 [vA 67, vI lv] M Q :=
  C_X12_settle (settle_x hd hlv ht ρ M s hS e23 hP hO hb e17 hc hl h)
theorem inner_x {k n : Nat} (hd : 1 ≤ d) (hS : Sh M) {π : Pil} (e23 : rd M 67 23 = π.length) (hl : π.length ≤ 400) (hP : PlM M π) (hO : OkP π) (h : Q (vI (inrP π)) M) : ∀ (τ σ : Pil), π = τ.reverse ++ σ → X G Y_X12_inner d k n 4 [vA 67, vI (inrP σ), vI σ.length] [] M Q
  | [], σ, hq => by
    rw [List.reverse_nil, List.nil_append] at hq
    subst hq
    exact B_X12_inner_4 hd hS ⟨⟨by omega, by omega⟩, by rw [e23]; exact ⟨by omega, by omega⟩, fun _ => h, fun w => by rw [e23] at w; omega⟩
  | e :: τ, σ, hq => by
    have hq' : π = τ.reverse ++ (e :: σ) := by rw [hq, List.reverse_cons, List.append_assoc]; rfl
    have hlen : π.length = τ.length + (σ.length + 1) := by rw [hq', List.length_append, List.length_reverse, List.length_cons]
    have hPe : PlM M (e :: σ) := PlM.suf τ.reverse _ (by rw [← hq']; exact hP)
    have he : 20 ≤ e.1 ∧ e.1 ≤ 31 := by
      have := hO e (by rw [hq']; simp)
      exact ⟨this.1, this.2.1⟩
    have ih := inner_x (k := k) (n := n) hd hS e23 hl hP hO h τ (e :: σ) hq'
    have el : ((e :: σ).length : Int) = (σ.length : Int) + 1 := by simp
    rw [el] at ih
    refine B_X12_inner_4 hd hS ⟨⟨by omega, by omega⟩, by rw [e23]; exact ⟨by omega, by omega⟩, fun w => by rw [e23] at w; omega, fun _ => ⟨by omega, by omega, by rw [hPe.1]; exact ⟨by omega, by omega⟩, fun w => ?_, fun w v6 e6 => ?_⟩⟩
    · rw [hPe.1] at w
      have : inrP (e :: σ) = inrP σ := if_neg (by omega)
      rw [this] at ih
      exact ih
    · rw [hPe.1] at w e6
      have : inrP (e :: σ) = e.1 := if_pos w
      rw [this] at ih
      rw [e6]; exact ih
theorem T_X12_inner {π : Pil} (hd : 1 ≤ d) (hS : Sh M) (e23 : rd M 67 23 = π.length) (hl : π.length ≤ 400) (hP : PlM M π) (hO : OkP π) (h : Q (vI (inrP π)) M) : C G Y_X12_inner d 0 0 [vA 67] M Q :=
  C_X12_inner (B_X12_inner_0 hd hS (inner_x (k := 0) (n := 0) hd hS e23 hl hP hO h π.reverse [] (by rw [List.reverse_reverse, List.append_nil])))
/-- whether a comparison lies under the sum's orders -/
def cmpP : Pil → Int
  | [] => 0
  | e :: _ => if 24 ≤ e.1 ∧ e.1 ≤ 26 then 1 else 0
theorem isCompared_x {k n : Nat} (hd : 2 ≤ d) (hS : Sh M) {π : Pil} (hn : ∀ e π', π = e :: π' → ¬ (20 ≤ e.1 ∧ e.1 ≤ 23)) (h : Q (vI (cmpP π)) M) : ∀ (ρ : Pil), (∀ e ∈ ρ, 20 ≤ e.1 ∧ e.1 ≤ 23) → (ρ ++ π).length ≤ 400 → PlM M (ρ ++ π) → OkP (ρ ++ π) → X G Y_X12_isCompared d k n 7 [vA 67, vI (((ρ ++ π).length : Int) - 1)] [] M Q
  | [], _, hl, hP, hO => by
    rw [List.nil_append] at hl hP hO ⊢
    cases π with
    | nil =>
      refine B_X12_isCompared_7 hd hS ⟨⟨by decide, by decide⟩, fun _ => ?_, fun w => absurd w (by decide)⟩
      exact B_X12_isCompared_36 hd hS ⟨⟨by decide, by decide⟩, fun _ => h, fun w => absurd w (by decide)⟩
    | cons e π =>
      have el : ((e :: π).length : Int) - 1 = π.length := by simp
      simp only [List.length_cons] at hl
      rw [el]
      have he := hO e (List.mem_cons_self ..)
      have r : inR (rd M 76 π.length) := by rw [hP.1]; exact ⟨by omega, by omega⟩
      refine B_X12_isCompared_7 hd hS ⟨⟨by omega, by omega⟩, fun w => by omega, fun _ => ⟨by omega, by omega, r, fun _ => ?_, fun w => ?_⟩⟩
      · refine B_X12_isCompared_36 hd hS ⟨⟨by omega, by omega⟩, fun w => by omega, fun _ => ⟨by omega, by omega, r, ?_⟩⟩
        rw [hP.1]; exact h
      · rw [hP.1] at w; exact absurd w (hn e π rfl)
  | e :: ρ, ha, hl, hP, hO => by
    have el : (((e :: ρ) ++ π).length : Int) - 1 = (ρ ++ π).length := by simp
    have hl' : (ρ ++ π).length + 1 ≤ 400 := hl
    have hP' : PlM M (e :: (ρ ++ π)) := hP
    rw [el]
    have he := ha e (List.mem_cons_self ..)
    have r : inR (rd M 76 (ρ ++ π).length) := by rw [hP'.1]; exact ⟨by omega, by omega⟩
    refine B_X12_isCompared_7 hd hS ⟨⟨by omega, by omega⟩, fun w => by omega, fun _ => ⟨by omega, by omega, r, fun w => ?_, fun _ => ?_⟩⟩
    · rw [hP'.1] at w; exact absurd he w
    · exact isCompared_x hd hS hn h ρ (fun x hx => ha x (List.mem_cons_of_mem _ hx)) (by omega) hP'.2.2 (fun x hx => hO x (List.mem_cons_of_mem _ hx))
theorem T_X12_isCompared {ρ π : Pil} (hd : 2 ≤ d) (hS : Sh M) (hn : ∀ e π', π = e :: π' → ¬ (20 ≤ e.1 ∧ e.1 ≤ 23)) (e23 : rd M 67 23 = (ρ ++ π).length) (ha : ∀ e ∈ ρ, 20 ≤ e.1 ∧ e.1 ≤ 23) (hl : (ρ ++ π).length ≤ 400) (hP : PlM M (ρ ++ π)) (hO : OkP (ρ ++ π)) (h : Q (vI (cmpP π)) M) : C G Y_X12_isCompared d 0 0 [vA 67] M Q :=
  C_X12_isCompared (B_X12_isCompared_0 (by omega) hS (fun v1 e1 => by rw [e1, e23]; exact isCompared_x hd hS hn h ρ ha hl hP hO))
def prtV (K : Int) : Int := if 306 ≤ K ∧ K ≤ 312 then K - 305 else -1
theorem T_X12_partAt {K : Int} (hd : 2 ≤ d) (hS : Sh M) (hw : SW (rd M 67 11) (rd M 67 12) K) (hi : inW (rd M 67 11) (rd M 67 12)) (h78 : ∀ k : Int, 0 ≤ k → k < 7 → rd M 78 k = gt wcdL (k + 6)) (h : Q (vI (prtV K)) M) : C G Y_X12_partAt d 0 0 [vA 67] M Q := by
  have key : ∀ (m : Nat) (x : Int), (7 - x).toNat = m → 0 ≤ x → x ≤ 7 → X G Y_X12_partAt d 0 0 4 [vA 67, vI (if 306 ≤ K ∧ K < 306 + x then K - 305 else -1), vI x] [] M Q := by
    intro m
    induction m with
    | zero =>
      intro x hm x0 x1
      have : x = 7 := by omega
      subst this
      refine B_X12_partAt_4 hd hS ⟨⟨by decide, by decide⟩, fun _ => ?_, fun w => absurd w (by decide)⟩
      have : (if 306 ≤ K ∧ K < 306 + 7 then K - 305 else -1) = prtV K := by
        unfold prtV
        by_cases q : 306 ≤ K ∧ K ≤ 312
        · rw [if_pos q, if_pos ⟨q.1, by omega⟩]
        · rw [if_neg q, if_neg (by omega)]
      rw [this]; exact h
    | succ m ih =>
      intro x hm x0 x1
      have xl : x < 7 := by omega
      have hg := wcd_ok (k := x + 6) (by omega) (by omega)
      refine B_X12_partAt_4 hd hS ⟨⟨by omega, by omega⟩, fun w => by omega, fun _ => ⟨x0, xl, hi.r.1, hi.r.2, by rw [h78 x x0 xl]; exact ⟨by omega, by omega⟩, fun v13 e13 => ?_⟩⟩
      have g := ih (x + 1) (by omega) (by omega) (by omega)
      have hW := hw.word (q := x + 6) (by omega) (by omega)
      rw [h78 x x0 xl] at e13
      have : v13 = if 306 ≤ K ∧ K < 306 + (x + 1) then K - 305 else -1 := by
        rw [e13]
        by_cases q : K = 300 + (x + 6)
        · rw [if_neg (fun w => w (hW.mpr q)), if_pos (by omega)]; omega
        · rw [if_pos (fun w => q (hW.mp w))]
          by_cases y : 306 ≤ K ∧ K < 306 + x
          · rw [if_pos y, if_pos (by omega)]
          · rw [if_neg y, if_neg (by omega)]
      rw [this]; exact g
  have g := key 7 0 rfl (by decide) (by decide)
  rw [if_neg (by omega)] at g
  exact C_X12_partAt (B_X12_partAt_0 (by omega) hS g)
end PM
