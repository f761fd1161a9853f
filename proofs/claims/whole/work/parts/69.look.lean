/-! ===== where a state lies in the class's tables; the next of a row ===== -/
def slo (p l z o : Int) : Int := gt fqL (nod p l) + ((z * 6) + o)
def seg (p l z o : Int) : Int := gt flL (nod p l) + (((z * 6) + o) * limF (pop p).toNat)
section LK
variable {G : GG} {d : Nat} {M : MM} {Q : PV → MM → Prop} {r : Int → Int}
theorem slo_rng {p l z o : Int} (hn : NS p l) (hz : 0 ≤ z ∧ z < 6) (ho : 0 ≤ o ∧ o < 6) : 0 ≤ slo p l z o ∧ slo p l z o < 2916 := by
  have q := node_ok hn
  unfold slo
  omega
theorem T_X9_limbAt {t p l z o : Int} (ht : t = 32 ∨ t = 44) (hS : Sh M) (hT : TBL M) (hn : NS p l) (hd : 2 ≤ d) (h : Q (vI (seg p l z o)) M) : C G Y_X9_limbAt d 0 0 [vA t, vI p, vI l, vI z, vI o] M Q := by
  have hr := nod_rng hn
  have hq := pop_le hn.1.1 hn.1.2
  have e : rd M 27 (((p * 5) + l) + 1) = gt flL (nod p l) := (hT _ hr.1 hr.2).2.1
  refine C_X9_limbAt (B_X9_limbAt_0 hd ht hS ⟨hn.1.1, hn.1.2, hq.1, by omega, fun v5 e5 => ⟨hr.1, hr.2, ?_⟩⟩)
  rw [e, e5]
  exact h
theorem T_X9_bestAt {t p l z o : Int} (ht : t = 32 ∨ t = 44) (hS : Sh M) (hT : TBL M) (hn : NS p l) (hz : 0 ≤ z ∧ z < 6) (ho : 0 ≤ o ∧ o < 6) (h9 : inR (rd M t 9)) (hd : 2 ≤ d)
    (h : Q (vI (if (iShr (rd M (t + 2) (slo p l z o)) 3) ≠ (rd M t 9) then (-1) else ((iAnd (rd M (t + 2) (slo p l z o)) 7) - 1))) M) : C G Y_X9_bestAt d 0 0 [vA t, vI p, vI l, vI z, vI o] M Q := by
  have hr := nod_rng hn
  have hs := slo_rng hn hz ho
  have e : rd M 28 (((p * 5) + l) + 1) = gt fqL (nod p l) := (hT _ hr.1 hr.2).2.2
  refine C_X9_bestAt (B_X9_bestAt_0 hd ht hS ?_)
  rw [e]
  refine ⟨hr.1, hr.2, hs.1, hs.2, fun v5 e5 => ⟨h9, ?_⟩⟩
  rw [e5]
  exact h
theorem T_X3_ofRow {ar n p : Int} (hS : Sh M) (hH : HR M r) (hV : RS r) (hp : 0 ≤ p ∧ p < 32) (har : ar = 10 ∨ ar = 31) (hn : 0 ≤ n ∧ n ≤ 5) (hR : RowOk (rd M ar) n) (hd : 4 ≤ d)
    (h : Q (vI (nxt r (rd M ar) n p)) M) : C G Y_X3_ofRow d 0 0 [vA 30, vA ar, vI n, vI p] M Q := by
  have hq := pop_le hp.1 hp.2
  have hok : ∀ i : Int, 0 ≤ i → i < 5 → okA M ar 20 i := fun i i0 i1 => by
    rcases har with rfl | rfl
    · exact sA_10 hS i0 i1
    · exact sA_31 hS i0 i1
  refine C_X3_ofRow (B_X3_ofRow_0 (by omega) hS ⟨hp.1, hp.2, fun v3 e3 => ⟨⟨by omega, by omega⟩, ⟨by omega, by omega⟩, fun lt => ?_, fun ge => ?_⟩⟩)
  · rw [e3] at lt
    rw [e3]
    have key : ∀ m : Nat, ∀ i : Int, i + m = pop p → 0 ≤ i → X G Y_X3_ofRow d 0 0 20 [vA 30, vA ar, vI n, vI p, vI (pop p), vI (pfx (rd M ar) i.toNat), vI i] [] M Q := by
      intro m
      induction m with
      | zero =>
        intro i ei i0
        have ei' : i = pop p := by omega
        have hx := pfx_ok hR i.toNat (by omega)
        have hf := hR.1 (pop p) hq.1 lt
        refine B_X3_ofRow_20 (r := r) hd hS ⟨⟨by omega, by omega⟩, ⟨by omega, by omega⟩, fun _ => ⟨⟨by omega, by omega⟩, ⟨by omega, by omega⟩, fun ne => ?_, fun eq => ⟨hH, hV, hp, hok _ hq.1 (by omega), ⟨by omega, by omega⟩, fun c => ?_, fun c => ?_⟩⟩, fun y => by omega⟩
        · have en : nxt r (rd M ar) n p = -1 := if_neg (fun y => ne (by rw [ei']; exact y.2.1))
          rw [← en]; exact h
        · have en : nxt r (rd M ar) n p = -1 := if_neg (fun y => c ⟨hf.1, hf.2, y.2.2⟩)
          rw [← en]; exact h
        · have en : nxt r (rd M ar) n p = rd M ar (pop p) := if_pos ⟨lt, by rw [← ei']; exact eq, c.2.2⟩
          rw [← en]; exact h
      | succ m ih =>
        intro i ei i0
        refine B_X3_ofRow_20 (r := r) hd hS ⟨⟨by omega, by omega⟩, ⟨by omega, by omega⟩, fun y => by omega, fun _ => ⟨hok i i0 (by omega), fun v11 e11 => ?_⟩⟩
        have e : v11 = pfx (rd M ar) (i + 1).toNat := by
          rw [e11, show (i + 1).toNat = i.toNat + 1 by omega]
          show _ = sb (pfx (rd M ar) i.toNat) (rd M ar ((i.toNat : Nat) : Int))
          rw [Int.toNat_of_nonneg i0]
        rw [e]
        exact ih (i + 1) (by omega) (by omega)
    exact key (pop p).toNat 0 (by omega) (by omega)
  · have en : nxt r (rd M ar) n p = -1 := if_neg (fun y => by have := y.1; omega)
    rw [← en]; exact h
end LK
