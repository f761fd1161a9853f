section GV
variable {G : GG} {d : Nat} {M : MM} {Q : PV → MM → Prop} {r : Int → Int}
theorem row10_ok (hH : HR M r) (hV : RS r) : RowOk (rd M 10) (r 3) := by
  have h8 := hH.2.2.2.2.2.2.2.1
  have n5 := hV.2.1
  obtain ⟨_, _, _, _, _, _, _, _, _, _, _, _, _, _, a3, b3, hr, hne, _⟩ := hV
  refine ⟨fun i i0 i1 => ?_, fun i j i0 i1 i2 => ?_⟩
  · have := hr i i0 i1
    rw [h8 i i0 (by omega)]
    omega
  · rw [h8 i i0 (by omega), h8 j (by omega) (by omega)]
    exact hne i j i0 i1 i2
theorem T_choose_row0 {p l z o : Int} (hS : Sh M) (hH : HR M r) (hV : RS r) (hp : 0 ≤ p ∧ p < 32) (hd : 5 ≤ d)
    (h : Q (vI (nxt r (rd M 10) (r 3) p)) M) : C G Y_X3_choose d 0 0 [vA 30, vI 0, vI p, vI l, vI z, vI o] M Q := by
  have e3 : rd M 1 12 = r 3 := hH.2.2.2.2.2.2.1
  have hR := row10_ok hH hV
  have b3 : 0 ≤ r 3 ∧ r 3 ≤ 5 := by
    obtain ⟨_, _, _, _, _, _, _, _, _, _, _, _, _, _, a3, b3, _⟩ := hV
    exact ⟨a3, b3⟩
  refine C_X3_choose (B_X3_choose_0 (r := r) (by omega) hS ⟨⟨by decide, by decide⟩, fun q => absurd rfl q, fun _ => ?_⟩)
  rw [e3]
  exact T_X3_ofRow hS hH hV hp (Or.inl rfl) b3 hR (by omega) (show Sh M ∧ Q (vI _) M from ⟨hS, h⟩)
theorem T_choose_row3 {p l z o : Int} (hS : Sh M) (hH : HR M r) (hV : RS r) (hp : 0 ≤ p ∧ p < 32) (hn : 0 ≤ rd M 30 4 ∧ rd M 30 4 ≤ 5) (hR : RowOk (rd M 31) (rd M 30 4)) (hd : 5 ≤ d)
    (h : Q (vI (nxt r (rd M 31) (rd M 30 4) p)) M) : C G Y_X3_choose d 0 0 [vA 30, vI 3, vI p, vI l, vI z, vI o] M Q := by
  refine C_X3_choose (B_X3_choose_0 (r := r) (by omega) hS ⟨⟨by decide, by decide⟩, fun _ => ⟨fun q => absurd rfl q, fun _ => ?_⟩, fun q => absurd q (by decide)⟩)
  exact T_X3_ofRow hS hH hV hp (Or.inr rfl) hn hR (by omega) (show Sh M ∧ Q (vI _) M from ⟨hS, h⟩)
theorem T_choose_ahead {p l z o : Int} (hS : Sh M) (hT : TBL M) (hn : NS p l) (hz : 0 ≤ z ∧ z < 6) (ho : 0 ≤ o ∧ o < 6) (h9 : inR (rd M 32 9)) (hd : 4 ≤ d)
    (h : Q (vI (if (iShr (rd M 34 (slo p l z o)) 3) ≠ (rd M 32 9) then (-1) else ((iAnd (rd M 34 (slo p l z o)) 7) - 1))) M) : C G Y_X3_choose d 0 0 [vA 30, vI 2, vI p, vI l, vI z, vI o] M Q := by
  refine C_X3_choose (B_X3_choose_0 (r := fun _ => 0) (by omega) hS ⟨⟨by decide, by decide⟩, fun _ => ⟨fun _ => ⟨fun q => absurd rfl q, fun _ => ?_⟩, fun q => absurd q (by decide)⟩, fun q => absurd q (by decide)⟩)
  exact T_X9_bestAt (Or.inl rfl) hS hT hn hz ho h9 (by omega) (show Sh M ∧ Q (vI _) M from ⟨hS, h⟩)
theorem NS_next {p l s : Int} (hn : NS p l) (hs : 0 ≤ s ∧ s < 5) (hb : bt p s = 0) : NS (sb p s) s ∧ pop (sb p s) = pop p + 1 := by
  have := fin2 (P := fun p s => bt p s = 0 → 0 ≤ sb p s ∧ sb p s < 32 ∧ bt (sb p s) s = 1 ∧ pop (sb p s) = pop p + 1) 32 5 (by decide +kernel) hn.1.1 hn.1.2 hs.1 hs.2 hb
  exact ⟨⟨⟨this.1, this.2.1⟩, ⟨by omega, hs.2⟩, Or.inr ⟨by omega, this.2.2.1⟩⟩, this.2.2.2⟩
end GV
