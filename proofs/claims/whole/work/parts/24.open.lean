section HS3
variable {G : GG} {d : Nat} {M : MM} {Q : PV → MM → Prop} {r : Int → Int}
theorem S_X4_open {p : Int} (hS : Sh M) (hH : HR M r) (hV : RS r) (hp : 0 ≤ p ∧ p < 32) (hd : 3 ≤ d) (h : Q (vI (canB r p)) M) : C G Y_X4_open d 0 0 [vA 1, vI p] M Q := by
  refine C_X4_open (B_X4_open_0 hd hS ⟨hH, hV, ?_, fun he => by unfold canB at h; rw [if_pos he] at h; exact h⟩)
  intro he v ev
  have e0 := hH.1
  have h0 := hV.1
  have h5 := hV.2.1
  have e8 := hH.2.2.2.1 2 (by decide) (by decide)
  rw [show (40 : Int) + 2 = 42 from rfl] at e8
  have hm := mnO_ok hV p
  obtain ⟨_, _, hsc, _, _, _, _, _, h42, h42', _⟩ := hV
  rw [e8] at ev
  unfold canB at h
  rw [if_neg he] at h
  have key : ∀ m s : Nat, s + m = (r 0).toNat → X G Y_X4_open d 0 0 28 [vA 1, vI p, vI v, vI (orTo (opB r p) s), vI s, vU] [] M Q := by
    intro m
    induction m with
    | zero =>
      intro s hs
      refine B_X4_open_28 (by omega) hS ⟨⟨by omega, by omega⟩, ⟨by omega, by omega⟩, fun c => ?_, fun c => by omega⟩
      have : s = (r 0).toNat := by omega
      subst this; exact h
    | succ m ih =>
      intro s hs
      have hh := hH.2.1 s (by omega) (by omega)
      have hb := hsc s (by omega) (by omega)
      have h01 := bt01 (s := (s : Int)) hp.1 hp.2 (by omega) (by omega)
      have no : opB r p s = false → X G Y_X4_open d 0 0 28 [vA 1, vI p, vI v, vI (orTo (opB r p) s), vI (s + 1), vU] [] M Q := by
        intro q
        have := ih (s + 1) (by omega)
        rw [orTo, q, if_neg (by decide)] at this
        exact this
      refine B_X4_open_28 (by omega) hS ⟨⟨by omega, by omega⟩, ⟨by omega, by omega⟩, fun c => by omega, fun c => ⟨fun b => ?_, fun b => ⟨by omega, by omega, fun q => ?_, fun q => ⟨⟨by omega, by omega⟩, ⟨by omega, by omega⟩, fun z => ?_, fun z v2 e2 => ?_⟩⟩⟩⟩
      · refine B_X4_open_64 (by omega) hS (no ?_)
        unfold opB
        rcases h01 with e | e
        · exact absurd e b
        · simp [e]
      · refine B_X4_open_64 (by omega) hS (no ?_)
        rw [hh.2.1] at q
        unfold opB
        simp [q]
      · refine no ?_
        unfold opB
        have : ¬ (mnO r p + r (10 + 3 * s) ≤ r 42) := by omega
        simp [this]
      · have := ih (s + 1) (by omega)
        rw [orTo, if_pos, ← e2] at this
        · exact this
        · rw [hh.2.1] at q
          unfold opB
          have z2 : mnO r p + r (10 + 3 * s) ≤ r 42 := by omega
          have b2 : bt p s = 0 := b
          simp [q, z2, b2]
  exact key _ 0 (Nat.zero_add _)
theorem S_X12_canBe {p : Int} (hS : Sh M) (hV : RS (rd M 69)) (hp : 0 ≤ p ∧ p < 32) (hd : 3 ≤ d) (h : Q (vI (canB (rd M 69) p)) M) : C G Y_X12_canBe d 0 0 [vA 67, vI p] M Q := by
  refine C_X12_canBe (B_X12_canBe_0 (by omega) hS ?_)
  have h0 := hV.1
  have h5 := hV.2.1
  have hm := mnO_ok hV p
  have hsc := hV.2.2.1
  have h42 : 0 ≤ rd M 69 42 ∧ rd M 69 42 ≤ 300 := ⟨hV.2.2.2.2.2.2.2.2.1, hV.2.2.2.2.2.2.2.2.2.1⟩
  have key : ∀ m s : Nat, s + m = (rd M 69 0).toNat → anyTo (fun s => decide (bt p s = 1) && decide (rd M 69 (12 + 3 * s) = 1)) s = false → X G Y_X12_canBe d 0 0 4 [vA 67, vI p, vI (orTo (opB (rd M 69) p) s), vI s, vU] [] M Q := by
    intro m
    induction m with
    | zero =>
      intro s hs ha
      refine B_X12_canBe_4 (by omega) hS ⟨⟨by omega, by omega⟩, ⟨by omega, by omega⟩, fun c => ?_, fun c => by omega⟩
      have e : s = (rd M 69 0).toNat := by omega
      subst e
      unfold canB endW at h
      rw [ha, if_neg (by decide)] at h
      exact h
    | succ m ih =>
      intro s hs ha
      have hb := hsc s (by omega) (by omega)
      have h01 := bt01 (s := (s : Int)) hp.1 hp.2 (by omega) (by omega)
      have e2 : (10 : Int) + 3 * s + 2 = 12 + 3 * s := by omega
      have e1 : (10 : Int) + 3 * s + 1 = 11 + 3 * s := by omega
      have ho := (orTo_ok (c := opB (rd M 69) p) (n := s) (by omega))
      have hoR : inR (orTo (opB (rd M 69) p) s) := by
        have : (2 : Int) ^ s ≤ 32 := by
          have : s = 0 ∨ s = 1 ∨ s = 2 ∨ s = 3 ∨ s = 4 ∨ s = 5 := by omega
          rcases this with e | e | e | e | e | e <;> rw [e] <;> decide
        exact ⟨by omega, by omega⟩
      have nx : (decide (bt p s = 1) && decide (rd M 69 (12 + 3 * s) = 1)) = false → anyTo (fun s => decide (bt p s = 1) && decide (rd M 69 (12 + 3 * s) = 1)) (s + 1) = false := fun q => by rw [anyTo, ha, q]; rfl
      have n81 : opB (rd M 69) p s = false → (decide (bt p s = 1) && decide (rd M 69 (12 + 3 * s) = 1)) = false → X G Y_X12_canBe d 0 0 81 [vA 67, vI p, vI (orTo (opB (rd M 69) p) s), vI s, vU] [] M Q := by
        intro q q2
        refine B_X12_canBe_81 (by omega) hS fun v ev => ?_
        have := ih (s + 1) (by omega) (nx q2)
        rw [orTo, q, if_neg (by decide)] at this
        rw [iOr_0 hoR] at ev
        rw [ev]
        exact this
      have n34 : (decide (bt p s = 1) && decide (rd M 69 (12 + 3 * s) = 1)) = false → X G Y_X12_canBe d 0 0 34 [vA 67, vI p, vI (orTo (opB (rd M 69) p) s), vI s, vU] [] M Q := by
        intro q2
        refine B_X12_canBe_34 (by omega) hS ⟨fun b => n81 (by unfold opB; simp [b]) q2, fun b => ⟨by omega, by omega, fun q => n81 (by rw [e1] at q; unfold opB; simp [q]) q2, fun q => ⟨hV, by omega, by omega, ⟨by rw [Int.add_zero]; omega, by rw [Int.add_zero]; omega⟩, ⟨by omega, by omega⟩, fun z => n81 ?_ q2, fun z v ev => ?_⟩⟩⟩
        · rw [Int.add_zero] at z
          unfold opB
          have : ¬ (mnO (rd M 69) p + rd M 69 (10 + 3 * s) ≤ rd M 69 42) := by omega
          simp [this]
        · have := ih (s + 1) (by omega) (nx q2)
          rw [orTo, if_pos, ← ev] at this
          · exact this
          · rw [e1] at q
            rw [Int.add_zero] at z
            unfold opB
            have b2 : ¬ bt p s = 1 := b
            simp [q, z, b2]
      refine B_X12_canBe_4 (by omega) hS ⟨⟨by omega, by omega⟩, ⟨by omega, by omega⟩, fun c => by omega, fun c => ⟨fun b => n34 (by have b : ¬ bt p s = 1 := b; simp [b]), fun b => ⟨by omega, by omega, by rw [e2]; exact ⟨by omega, by omega⟩, fun q => n34 (by rw [e2] at q; simp [q]), fun q => ?_⟩⟩⟩
      rw [e2] at q
      have : endW (rd M 69) p = true := anyTo_iff.mpr ⟨s, by omega, by omega, by have b : bt p s = 1 := b; simp [b, q]⟩
      unfold canB at h
      rw [this, if_pos rfl] at h
      exact h
  exact key _ 0 (Nat.zero_add _) rfl
abbrev coBe (n mi ne en : Int) : Prop := 1 ≤ mi ∧ mi ≤ 60 ∧ 0 ≤ ne ∧ ne < 32 ∧ (en = 0 ∨ en = 1) ∧ ¬ (n < 5 ∧ bt ne n = 1)
theorem S_X4_couldBe {mi ne en : Int} [Decidable (coBe (r 0) mi ne en)] (hS : Sh M) (hH : HR M r) (hV : RS r) (h1 : inR mi) (h2 : inR ne) (h3 : inR en) (hd : 2 ≤ d) (h : Q (vI (if coBe (r 0) mi ne en then 1 else 0)) M) : C G Y_X4_couldBe d 0 0 [vA 1, vI mi, vI ne, vI en] M Q := by
  have e0 := hH.1
  have h0 := hV.1
  have h5 := hV.2.1
  refine C_X4_couldBe (B_X4_couldBe_0 hd hS ⟨h1, h2, h3, fun c => ?_, fun c => ⟨⟨by omega, by omega⟩, ?_⟩⟩)
  · rw [if_neg (by unfold coBe; omega)] at h
    exact h
  · rw [e0]
    by_cases z : r 0 < 5 ∧ bt ne (r 0) = 1
    · rw [if_neg (by unfold coBe; omega)] at h
      rw [if_neg (fun q => q ⟨h0, z.1, z.2⟩)]
      exact h
    · rw [if_pos (by unfold coBe; omega)] at h
      rw [if_pos (by intro q; exact z ⟨q.2.1, q.2.2⟩)]
      exact h
def chgM (M : MM) (a v : Int) : MM := wasM (wr M 69 a v)
theorem S_X12_change {a v : Int} (hS : Sh M) (h0 : 0 ≤ a) (h1 : a < 5460) (hd : 2 ≤ d) (h : Q (vI (rd M 69 a)) (chgM M a v)) : C G Y_X12_change d 0 0 [vA 67, vI a, vI v] M Q :=
  C_X12_change (B_X12_change_0 hd hS ⟨h0, h1, fun _ e _ e1 _ _ e2 _ => by subst e e1 e2; exact h⟩)
theorem sChg {a v : Int} (hS : Sh M) : Sh (chgM M a v) := sW_67_1 (sW_69 hS)
end HS3
