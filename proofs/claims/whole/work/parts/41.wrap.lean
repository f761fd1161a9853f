/-! ===== contracts in the form that the blocks take ===== -/
def MOK (M : MM) (sm : Int → LSm) : Prop := RS (rd M 69) ∧ MLaws (rd M 69) sm
theorem MOK.fr {K : Int → Int → Prop} {M M' : MM} {sm : Int → LSm} (h : MOK M sm) (hf : Fr K M M') (hK : ∀ j, ¬ K 69 j) : MOK M' sm := by
  have e : rd M' 69 = rd M 69 := funext fun j => hf.2.2 _ _ (hK j)
  unfold MOK; rw [e]; exact h
def rngS (s p l z o : Int) : Prop := (0 ≤ s ∧ s < 5) ∧ (0 ≤ p ∧ p < 32) ∧ (-1 ≤ l ∧ l < 5) ∧ (0 ≤ z ∧ z < 6) ∧ (0 ≤ o ∧ o < 6)
section WR
variable {G : GG} {d : Nat} {M : MM} {Q : PV → MM → Prop} {sm : Int → LSm}
theorem T_X12_ask {hd' so sc be hs ow mi pl : Int} (hS : Sh M) (hM : MOK M sm) (hh : hd' = 0 ∨ hd' = 1) (hf : FR (fcts so sc be hs ow mi pl)) (hd : 5 ≤ d)
    (h : ∀ v M', (Fr KA M M' ∧ v = askV (rd M 69) sm (fcts so sc be hs ow mi pl) hd') → Sh M' → Q (vI v) M') : C G Y_X12_ask d 0 0 [vA 67, vI hd', vI so, vI sc, vI be, vI hs, vI ow, vI mi, vI pl] M Q :=
  S_X12_ask hS hM.1 hM.2 hh hf hd (fun M' f h' => h _ M' ⟨f, rfl⟩ h')
theorem T_X12_clear {a at' : Int} (hS : Sh M) (ha : Ar M a at' 14) (hd : 1 ≤ d) (h : ∀ M', (Ch M M' a at' 14 ∧ ∀ i : Int, 0 ≤ i → i < 14 → rd M' a (at' + i) = 0) → Sh M' → Q vU M') : C G Y_X12_clear d 0 0 [vA a, vI at'] M Q :=
  S_X12_clear ha hd (fun M' c z => h M' ⟨c, z⟩ (hS.ch c (by rw [ha.2.2.1]; decide)))
theorem T_X12_add {to at' fr fi by' : Int} (hS : Sh M) (hto : Ar M to at' 14) (hfr : Ar M fr fi 14) (hne : to ≠ fr) (nA : nrm (rd M to) at' 14) (nB : nrm (rd M fr) fi 14) (hb : 0 ≤ by' ∧ by' ≤ 10000000000) (hlt : vl (rd M to) at' 14 + vl (rd M fr) fi 14 * by' < Bp 14) (hd : 1 ≤ d)
    (h : ∀ M', (Ch M M' to at' 14 ∧ nrm (rd M' to) at' 14 ∧ vl (rd M' to) at' 14 = vl (rd M to) at' 14 + vl (rd M fr) fi 14 * by') → Sh M' → Q vU M') : C G Y_X12_add d 0 0 [vA to, vI at', vA fr, vI fi, vL by'] M Q :=
  S_X12_add hto hfr hne nA rfl nB rfl hb hlt hd (fun M' c n v => h M' ⟨c, n, v⟩ (hS.ch c (by rw [hto.2.2.1]; decide)))
theorem sc_B {q : Int} (h0 : 0 ≤ q) (h1 : q ≤ 5) : sc q = (if (20 * (5 - q)) % 8 = 0 then 1 else 10000) * Bp ((20 * (5 - q)) / 8).toNat := by
  have : q = 0 ∨ q = 1 ∨ q = 2 ∨ q = 3 ∨ q = 4 ∨ q = 5 := by omega
  rcases this with rfl | rfl | rfl | rfl | rfl | rfl <;> decide +kernel
theorem T_X12_addNumber {a v no : Int} (hS : Sh M) (ha : Ar M a 0 14) (nA : nrm (rd M a) 0 14) (hv : 0 ≤ v ∧ v ≤ 1000000000) (hq : ∃ q : Int, no = 20 * (5 - q) ∧ 0 ≤ q ∧ q ≤ 5 ∧ vl (rd M a) 0 14 + v * sc q < Bp 14) (hd : 1 ≤ d)
    (h : ∀ M', (Ch M M' a 0 14 ∧ nrm (rd M' a) 0 14 ∧ ∀ q : Int, no = 20 * (5 - q) → 0 ≤ q → q ≤ 5 → vl (rd M' a) 0 14 = vl (rd M a) 0 14 + v * sc q) → Sh M' → Q vU M') : C G Y_X12_addNumber d 0 0 [vA a, vL v, vI no] M Q := by
  obtain ⟨q, e, q0, q1, hlt⟩ := hq
  refine S_X12_addNumber (T := vl (rd M a) 0 14 + v * sc q) ha nA rfl ⟨hv.1, by omega⟩ ⟨by omega, by omega⟩ (by rw [sc_B q0 q1, e]) hlt hd (fun M' c n hv' => h M' ⟨c, n, fun q' e' _ _ => ?_⟩ (hS.ch c (by rw [ha.2.2.1]; decide)))
  rw [hv', show q' = q by omega]
theorem T_X12_compare {a at' b fi : Int} (ha : Ar M a at' 14) (hb : Ar M b fi 14) (nA : nrm (rd M a) at' 14) (nB : nrm (rd M b) fi 14) (hd : 1 ≤ d) (h : Q (vI (cmpI (vl (rd M a) at' 14) (vl (rd M b) fi 14))) M) : C G Y_X12_compare d 0 0 [vA a, vI at', vA b, vI fi] M Q := S_X12_compare ha hb nA rfl nB rfl hd h
end WR
