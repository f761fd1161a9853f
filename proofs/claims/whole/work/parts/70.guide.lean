/-! ===== who chooses, in the class ===== -/
section GU
variable {G : GG} {d : Nat} {M : MM} {Q : PV → MM → Prop} {sm : Int → LSm} {r : Int → Int}
theorem T_choose_mst {p l z o : Int} (hS : Sh M) (hC : CIn M r sm) (hn : NS p l) (hz : 0 ≤ z ∧ z < 6) (ho : 0 ≤ o ∧ o < 6) (hd : 7 ≤ d)
    (h : ∀ M', Fr KTd M M' → CIn M' r sm → Sh M' → Q (vI (mst r sm p l z o)) M') : C G Y_X3_choose d 0 0 [vA 30, vI 1, vI p, vI l, vI z, vI o] M Q := by
  have hV := hC.1.2.1
  have n0 := hV.1
  have n5 := hV.2.1
  have hcb := canB_ok hV p
  have i0 : ∀ w : Int, (if (0 : Int) ≠ 0 then (iShr w 8) else w) = w := fun w => if_neg (by decide)
  have i1 : ∀ w : Int, (if (1 : Int) ≠ 0 then (iShr w 8) else w) = iShr w 8 := fun w => if_pos (by decide)
  refine C_X3_choose (B_X3_choose_0 (r := r) (by omega) hS ⟨⟨by decide, by decide⟩, fun _ => ⟨fun _ => ⟨fun _ => ⟨fun q => absurd rfl q, fun _ => ⟨hC.1.1, hV, hn.1, fun v5 e5 => ?_⟩⟩, fun q => absurd q (by decide)⟩, fun q => absurd q (by decide)⟩, fun q => absurd q (by decide)⟩)
  rw [e5]
  have key : ∀ m n : Nat, (n : Int) + m = r 0 → ∀ Mk, Fr KTd M Mk → CIn Mk r sm → Sh Mk → X G Y_X3_choose d 0 0 90 [vA 30, vI 1, vI p, vI l, vI z, vI o, vI (canB r p), vI (mstP r sm p l z o n).1, vI (mstP r sm p l z o n).2, vI n, vU, vU] [] Mk Q := by
    intro m
    induction m with
    | zero =>
      intro n en Mk fk hCk hSk
      have e0 : rd Mk 1 0 = r 0 := hCk.1.1.1
      refine B_X3_choose_90 (r := r) (sm := sm) hd hSk ?_
      rw [e0]
      refine ⟨⟨by omega, by omega⟩, ⟨by omega, by omega⟩, fun _ => ?_, fun q => by omega⟩
      have := h Mk fk hCk hSk
      unfold mst at this
      rw [show (r 0).toNat = n by omega] at this
      exact this
    | succ m ih =>
      intro n en Mk fk hCk hSk
      have e0 : rd Mk 1 0 = r 0 := hCk.1.1.1
      have e4 : rd Mk 4 n = r (12 + 3 * n) := (hCk.1.1.2.1 n (by omega) (by omega)).2.2
      have hsc := hV.2.2.1 n (by omega) (by omega)
      have hmp := mstP_ok (r := r) (sm := sm) (p := p) (l := l) hz ho n
      have hv := @mstV_ok r sm p l z o n hz ho
      have stay : ∀ M2 : MM, Fr KTd M M2 → CIn M2 r sm → Sh M2 → ¬ (bt (canB r p) n = 1 ∧ (mstP r sm p l z o n).2 < mstV r sm p l z o n) → X G Y_X3_choose d 0 0 90 [vA 30, vI 1, vI p, vI l, vI z, vI o, vI (canB r p), vI (mstP r sm p l z o n).1, vI (mstP r sm p l z o n).2, vI ((n : Int) + 1), vU, vU] [] M2 Q := by
        intro M2 f2 hC2 hS2 q
        have := ih (n + 1) (by omega) M2 f2 hC2 hS2
        have em : mstP r sm p l z o (n + 1) = mstP r sm p l z o n := by simp only [mstP]; rw [if_neg q]
        rw [em] at this
        exact this
      have take : ∀ (v : Int) (M2 : MM), Fr KTd M M2 → CIn M2 r sm → Sh M2 → v = mstV r sm p l z o n → bt (canB r p) n = 1 → (mstP r sm p l z o n).2 < v → X G Y_X3_choose d 0 0 90 [vA 30, vI 1, vI p, vI l, vI z, vI o, vI (canB r p), vI n, vI v, vI ((n : Int) + 1), vU, vU] [] M2 Q := by
        intro v M2 f2 hC2 hS2 ev q q2
        have := ih (n + 1) (by omega) M2 f2 hC2 hS2
        have em : mstP r sm p l z o (n + 1) = ((n : Int), v) := by
          simp only [mstP]
          rw [ev] at q2
          rw [if_pos ⟨q, q2⟩, ev]
        rw [em] at this
        exact this
      refine B_X3_choose_90 (r := r) (sm := sm) hd hSk ?_
      rw [e0, e4]
      refine ⟨⟨by omega, by omega⟩, ⟨by omega, by omega⟩, fun q => by omega, fun _ => ⟨fun q v3 e3 => ?_, fun q => stay Mk fk hCk hSk (fun y => by have := y.1; rw [show bt (canB r p) n = 0 from q] at this; omega)⟩⟩
      have hb : bt (canB r p) n = 1 := by
        rcases bt01 hcb.1 hcb.2.1 (show 0 ≤ (n : Int) by omega) (show (n : Int) < 5 by omega) with y | y
        · exact absurd y q
        · exact y
      have hs2 := canB_s hV hn.1 ⟨show 0 ≤ (n : Int) by omega, by omega⟩ hb
      refine ⟨by omega, by omega, ⟨by omega, by omega⟩, fun he => ?_, fun hne => ?_⟩
      · have ev : v3 = mstV r sm p l z o n := by unfold mstV; rw [if_pos he, e3]
        exact ⟨⟨by omega, by omega⟩, ⟨by omega, by omega⟩, fun y => stay Mk fk hCk hSk (fun y2 => by have := y2.2; omega), fun y => take v3 Mk fk hCk hSk ev hb y⟩
      · refine ⟨hCk, ⟨hn, ⟨by omega, by omega⟩, hs2.2, hz, ho⟩, fun r12 M11 e12 hS11 v14 e14 => ?_⟩
        obtain ⟨f11, hC11, er⟩ := e12
        rw [i0, i1, er] at e14
        have k0 : 0 ≤ (if 0 < z then chn r sm 0 n p l z o else 0) ∧ (if 0 < z then chn r sm 0 n p l z o else 0) ≤ 100 := by
          split
          · exact chn_ok
          · exact ⟨by decide, by decide⟩
        have k1 : 0 ≤ (if 0 < o then chn r sm 1 n p l z o else 0) ∧ (if 0 < o then chn r sm 1 n p l z o else 0) ≤ 100 := by
          split
          · exact chn_ok
          · exact ⟨by decide, by decide⟩
        have tk := tol_ok k0 k1 (@prcs_ok r sm n p l z o hz ho)
        have ev : v14 = mstV r sm p l z o n := by
          unfold mstV
          rw [if_neg hne, e14]
          unfold tolV
          rw [tk.1, tk.2.1]
          have y1 : z * (if 0 < z then chn r sm 0 n p l z o else 0) = z * chn r sm 0 n p l z o := by
            by_cases y : 0 < z
            · rw [if_pos y]
            · rw [if_neg y, show z = 0 by omega, Int.zero_mul, Int.zero_mul]
          have y2 : o * (if 0 < o then chn r sm 1 n p l z o else 0) = o * chn r sm 1 n p l z o := by
            by_cases y : 0 < o
            · rw [if_pos y]
            · rw [if_neg y, show o = 0 by omega, Int.zero_mul, Int.zero_mul]
          rw [y1, y2]
        exact ⟨⟨by omega, by omega⟩, ⟨by omega, by omega⟩, fun y => stay M11 (fk.tr f11) hC11 hS11 (fun y2 => by have := y2.2; omega), fun y => take v14 M11 (fk.tr f11) hC11 hS11 ev hb y⟩
  exact key (r 0).toNat 0 (by omega) M Fr.rf hC hS
end GU
