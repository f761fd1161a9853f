def CIn (M : MM) (r : Int → Int) (sm : Int → LSm) : Prop := COK M r sm ∧ TBL M ∧ CKp M r sm
def stpOk (p l s z o : Int) : Prop := NS p l ∧ (0 ≤ s ∧ s < 5) ∧ bt p s = 0 ∧ (0 ≤ z ∧ z < 6) ∧ (0 ≤ o ∧ o < 6)
theorem CIn.fr {K : Int → Int → Prop} {M M' : MM} {r : Int → Int} {sm : Int → LSm} (h : CIn M r sm) (hf : Fr K M M') (hK : ∀ a j, K a j → 30 ≤ a ∧ a < 94) : CIn M' r sm := by
  have x : ∀ a j : Int, a < 30 → rd M' a j = rd M a j := fun a j q => hf.2.2 a j (fun w => by have := hK a j w; omega)
  refine ⟨h.1.fr hf (fun a j q => by have := hK a j q; omega), fun i i0 i1 => ?_, ?_⟩
  · rw [x 26 i (by decide), x 27 i (by decide), x 28 i (by decide)]; exact h.2.1 i i0 i1
  · unfold CKp
    rw [x 25 6 (by decide)]
    rcases h.2.2 with q | ⟨q, q2⟩
    · exact Or.inl q
    · exact Or.inr ⟨q, fun p l s z o a1 a2 a3 a4 a5 a6 a7 a8 => by rw [x 29 _ (by decide)]; exact q2 p l s z o a1 a2 a3 a4 a5 a6 a7 a8⟩
section WD
variable {G : GG} {d : Nat} {M : MM} {Q : PV → MM → Prop} {sm : Int → LSm} {r : Int → Int}
theorem T_told {p l s z o : Int} (hS : Sh M) (hC : CIn M r sm) (hs : stpOk p l s z o) (hd : 6 ≤ d) (h : ∀ v M', (Fr KTd M M' ∧ CIn M' r sm ∧ v = tolV r sm p l s z o) → Sh M' → Q (vI v) M') : C G Y_X8_told d 0 0 [vA 25, vI p, vI l, vI s, vI z, vI o] M Q := by
  obtain ⟨h1, h2, h3, h4, h5⟩ := hs
  refine T_X8_told hS hC.1 hC.2.1 hC.2.2 h1 h2 h3 h4 h5 hd (fun v M' ⟨f, k, e⟩ hS' => h v M' ⟨f, ⟨hC.1.fr f (fun a j q => by unfold KTd at q; omega), fun i i0 i1 => ?_, k⟩, e⟩ hS')
  rw [f.2.2 26 i (by unfold KTd; omega), f.2.2 27 i (by unfold KTd; omega), f.2.2 28 i (by unfold KTd; omega)]; exact hC.2.1 i i0 i1
theorem T_X2_addTimes {to fr at' n times : Int} (hS : Sh M) (hn : 0 ≤ n ∧ n ≤ 14) (hto : Ar M to 0 n.toNat) (hfr : Ar M fr at' n.toNat) (hne : to ≠ fr) (hd : 1 ≤ d)
    (h : ∀ M', (Ch M M' to 0 n.toNat ∧ ∀ i : Int, 0 ≤ i → i < n → rd M' to i = rd M to i + rd M fr (at' + i) * times) → Sh M' → Q vU M') : C G Y_X2_addTimes d 0 0 [vA to, vA fr, vI at', vI n, vL times] M Q := by
  have := S_X2_addTimes (G := G) (d := d) (M := M) (Q := Q) (to := to) (fr := fr) (at' := at') (times := times) (n := n.toNat) hto hfr hne (by omega) hd (fun M' c hv => h M' ⟨c, fun i i0 i1 => hv i i0 (by omega)⟩ (hS.ch c (by rw [hto.2.2.1]; decide)))
  rw [show ((n.toNat : Nat) : Int) = n by omega] at this
  exact this
theorem T_X2_carry {a : Int} (hS : Sh M) (ha : Ar M a 0 14) (hb : ∀ i : Int, 0 ≤ i → i < 14 → 0 ≤ rd M a i ∧ rd M a i ≤ 4000000000000000000) (hlt : vl (rd M a) 0 14 < Bp 14) (hd : 1 ≤ d)
    (h : ∀ M', (Ch M M' a 0 14 ∧ nrm (rd M' a) 0 14 ∧ vl (rd M' a) 0 14 = vl (rd M a) 0 14) → Sh M' → Q vU M') : C G Y_X2_carry d 0 0 [vA a] M Q :=
  S_X2_carry ha hb rfl hlt hd (fun M' c n v => h M' ⟨c, n, v⟩ (hS.ch c (by rw [ha.2.2.1]; decide)))
theorem T_X2_compare {a b at' n : Int} (hn : 0 ≤ n ∧ n ≤ 14) (ha : Ar M a 0 n.toNat) (hb : Ar M b at' n.toNat) (nA : nrm (rd M a) 0 n.toNat) (nB : nrm (rd M b) at' n.toNat) (hd : 1 ≤ d)
    (h : Q (vI (cmpI (vl (rd M a) 0 n.toNat) (vl (rd M b) at' n.toNat))) M) : C G Y_X2_compare d 0 0 [vA a, vA b, vI at', vI n] M Q := by
  have := S_X2_compare (G := G) (d := d) (M := M) (Q := Q) (a := a) (b := b) (at' := at') (n := n.toNat) (by omega) ha hb nA rfl nB rfl hd h
  rw [show ((n.toNat : Nat) : Int) = n by omega] at this
  exact this
theorem T_X2_subtract {a b : Int} (hS : Sh M) (ha : Ar M a 0 14) (hb : Ar M b 0 14) (hne : a ≠ b) (nA : nrm (rd M a) 0 14) (nB : nrm (rd M b) 0 14) (hle : vl (rd M b) 0 14 ≤ vl (rd M a) 0 14) (hd : 1 ≤ d)
    (h : ∀ M', (Ch M M' a 0 14 ∧ nrm (rd M' a) 0 14 ∧ vl (rd M' a) 0 14 = vl (rd M a) 0 14 - vl (rd M b) 0 14) → Sh M' → Q vU M') : C G Y_X2_subtract d 0 0 [vA a, vA b] M Q :=
  S_X2_subtract ha hb hne nA rfl nB rfl hle hd (fun M' c n v => h M' ⟨c, n, v⟩ (hS.ch c (by rw [ha.2.2.1]; decide)))
theorem T_X2_spread {a n c : Int} (hS : Sh M) (ha : Ar M a 0 6) (hn : 0 ≤ n ∧ n < 6) (hc : 0 ≤ c ∧ c ≤ 100) (hd : 1 ≤ d)
    (h : ∀ M', (Ch M M' a 0 6 ∧ ∀ k : Int, 0 ≤ k → k ≤ n → rd M' a k = stv n c k) → Sh M' → Q vU M') : C G Y_X2_spread d 0 0 [vA a, vI n, vI c] M Q :=
  S_X2_spread ha hn ⟨hc.1, by omega⟩ hd (fun M' ch hv => h M' ⟨ch, hv⟩ (hS.ch ch (by rw [ha.2.2.1]; decide)))
theorem T_X2_addAt {a pl v : Int} (hS : Sh M) (ha : Ar M a 0 14) (hp : 0 ≤ pl ∧ pl < 112) (hd : 1 ≤ d) (h : ∀ M', M' = wr M a (pl / 8) (rd M a (pl / 8) + v * tenF (pl % 8).toNat) → Sh M' → Q vU M') : C G Y_X2_addAt d 0 0 [vA a, vI pl, vL v] M Q := by
  refine C_X2_addAt (B_X2_addAt_0 hd ?_)
  rw [Int.tdiv_eq_ediv_of_nonneg hp.1, Int.tmod_eq_emod_of_nonneg hp.1]
  refine ⟨⟨by omega, by omega⟩, ha.ok (by omega) (by omega), by omega, by omega, fun M5 e5 => h M5 e5 ?_⟩
  have c : Ch M M5 a 0 14 := by rw [e5]; exact Ch.rf.wr (by omega) (by omega)
  exact hS.ch c (by rw [ha.2.2.1]; decide)
theorem T_fillR {a fr to v : Int} (hS : Sh M) (ha : fill1 M a 21) (hr : 0 ≤ fr ∧ fr ≤ to ∧ to ≤ (mT M a).2) (hd : 2 ≤ d) (h : ∀ M', (Ch M M' a fr (to - fr).toNat ∧ ∀ i : Int, fr ≤ i → i < to → rd M' a i = v) → Sh M' → Q vU M') : C G Y_J7_fill_bad5a d 0 0 [vA a, vI fr, vI to, vL v] M Q := by
  have hb := ha.2.2
  refine C_J7_fill_bad5a (B_J7_fill_bad5a_0 hd ⟨ha.1, ⟨hr.1, hr.2.1, hr.2.2, hb⟩, ?_⟩)
  have key : ∀ m : Nat, ∀ k : Int, k + m = to → fr ≤ k → ∀ Mk, Ch M Mk a fr (to - fr).toNat → (∀ i : Int, fr ≤ i → i < k → rd Mk a i = v) → X G Y_J7_fill_bad5a d 0 0 10 [vA a, vI fr, vI to, vL v, vU, vI k] [] Mk Q := by
    intro m
    induction m with
    | zero =>
      intro k hk hfk Mk hC hv
      exact B_J7_fill_bad5a_10 (by omega) ⟨⟨by omega, by omega⟩, ⟨by omega, by omega⟩, fun _ => h Mk ⟨hC, fun i i0 i1 => hv i i0 (by omega)⟩ (hS.ch hC (by rw [ha.1.2.2]; decide)), fun q => by omega⟩
    | succ m ih =>
      intro k hk hfk Mk hC hv
      refine B_J7_fill_bad5a_10 (by omega) ⟨⟨by omega, by omega⟩, ⟨by omega, by omega⟩, fun q => by omega, fun _ => ⟨⟨ha.1.1, by rw [hC.1]; exact ha.1.2.1, by rw [hC.2.1]; exact ha.1.2.2, by omega, by rw [hC.2.1]; omega⟩, fun M4 e4 => ?_⟩⟩
      refine ih (k + 1) (by omega) (by omega) M4 (by rw [e4]; exact hC.wr (by omega) (by omega)) (fun i i0 i1 => ?_)
      rw [e4, rd_wr]
      split
      · rfl
      · exact hv i i0 (by omega)
  exact key (to - fr).toNat fr (by omega) (Int.le_refl _) M Ch.rf (fun i i0 i1 => by omega)
end WD
