/-! ===== pairs of calls: tape, rows, book, heads ===== -/
theorem byte_0 (x : Int) : iAnd (iUshr x 0) 255 = iAnd (iShr x 0) 255 := by
  unfold iAnd iUshr iShr
  rw [Int32.ofInt_toInt, Int32.ofInt_toInt]
  generalize Int32.ofInt x = y
  have h : (y.toBitVec >>> 0) &&& 255#32 = (y.toBitVec.sshiftRight 0) &&& 255#32 := by
    apply BitVec.eq_of_getLsbD_eq
    intro i hi
    rw [BitVec.getLsbD_and, BitVec.getLsbD_and, BitVec.getLsbD_ushiftRight, BitVec.getLsbD_sshiftRight]
    by_cases w : i < 8
    · rw [if_pos (by omega), show decide (32 ≤ i) = false from decide_eq_false (by omega)]
      rfl
    · have z : ∀ j : Fin 32, 8 ≤ j.val → (255#32).getLsbD j.val = false := by decide +kernel
      rw [z ⟨i, hi⟩ (by show 8 ≤ i; omega), Bool.and_false, Bool.and_false]
  exact congrArg Int32.toInt (Int32.toBitVec_inj.mp h)
theorem byte_8 (x : Int) : iAnd (iUshr x 8) 255 = iAnd (iShr x 8) 255 := by
  unfold iAnd iUshr iShr
  rw [Int32.ofInt_toInt, Int32.ofInt_toInt]
  generalize Int32.ofInt x = y
  have h : (y.toBitVec >>> 8) &&& 255#32 = (y.toBitVec.sshiftRight 8) &&& 255#32 := by
    apply BitVec.eq_of_getLsbD_eq
    intro i hi
    rw [BitVec.getLsbD_and, BitVec.getLsbD_and, BitVec.getLsbD_ushiftRight, BitVec.getLsbD_sshiftRight]
    by_cases w : i < 8
    · rw [if_pos (by omega), show decide (32 ≤ i) = false from decide_eq_false (by omega)]
      rfl
    · have z : ∀ j : Fin 32, 8 ≤ j.val → (255#32).getLsbD j.val = false := by decide +kernel
      rw [z ⟨i, hi⟩ (by show 8 ≤ i; omega), Bool.and_false, Bool.and_false]
  exact congrArg Int32.toInt (Int32.toBitVec_inj.mp h)
theorem byte_16 (x : Int) : iAnd (iUshr x 16) 255 = iAnd (iShr x 16) 255 := by
  unfold iAnd iUshr iShr
  rw [Int32.ofInt_toInt, Int32.ofInt_toInt]
  generalize Int32.ofInt x = y
  have h : (y.toBitVec >>> 16) &&& 255#32 = (y.toBitVec.sshiftRight 16) &&& 255#32 := by
    apply BitVec.eq_of_getLsbD_eq
    intro i hi
    rw [BitVec.getLsbD_and, BitVec.getLsbD_and, BitVec.getLsbD_ushiftRight, BitVec.getLsbD_sshiftRight]
    by_cases w : i < 8
    · rw [if_pos (by omega), show decide (32 ≤ i) = false from decide_eq_false (by omega)]
      rfl
    · have z : ∀ j : Fin 32, 8 ≤ j.val → (255#32).getLsbD j.val = false := by decide +kernel
      rw [z ⟨i, hi⟩ (by show 8 ≤ i; omega), Bool.and_false, Bool.and_false]
  exact congrArg Int32.toInt (Int32.toBitVec_inj.mp h)
theorem byte_24 (x : Int) : iAnd (iUshr x 24) 255 = iAnd (iShr x 24) 255 := by
  unfold iAnd iUshr iShr
  rw [Int32.ofInt_toInt, Int32.ofInt_toInt]
  generalize Int32.ofInt x = y
  have h : (y.toBitVec >>> 24) &&& 255#32 = (y.toBitVec.sshiftRight 24) &&& 255#32 := by
    apply BitVec.eq_of_getLsbD_eq
    intro i hi
    rw [BitVec.getLsbD_and, BitVec.getLsbD_and, BitVec.getLsbD_ushiftRight, BitVec.getLsbD_sshiftRight]
    by_cases w : i < 8
    · rw [if_pos (by omega), show decide (32 ≤ i) = false from decide_eq_false (by omega)]
      rfl
    · have z : ∀ j : Fin 32, 8 ≤ j.val → (255#32).getLsbD j.val = false := by decide +kernel
      rw [z ⟨i, hi⟩ (by show 8 ≤ i; omega), Bool.and_false, Bool.and_false]
  exact congrArg Int32.toInt (Int32.toBitVec_inj.mp h)
theorem byte_eq (x : Int) {n : Nat} (h : n < 4) : iAnd (iUshr x (8 * (n : Int))) 255 = iAnd (iShr x (8 * (n : Int))) 255 := by
  have : n = 0 ∨ n = 1 ∨ n = 2 ∨ n = 3 := by omega
  rcases this with rfl | rfl | rfl | rfl
  · exact byte_0 x
  · exact byte_8 x
  · exact byte_16 x
  · exact byte_24 x
def bts (tx : Int → Int) (t x : Int) : Nat → (Int → Int)
  | 0 => tx
  | n + 1 => bts (upF tx t (iAnd (iShr x (8 * (n : Int))) 255)) (t + 1) x n
section TK
variable {G : GG} {d : Nat} {r : Int → Int} {sm : Int → LSm} {L : List (Int × Int × Int)} {ri : Int → Int → Int} {si : Int → Int → LSm} {q x : Int}
theorem tkC (hd : 1 ≤ d) : ∀ (n : Nat) (t : Int) (s tx : Int → Int) (M : MM) (Q : PV → MM → Prop), n ≤ 4 → CI q r sm s tx L ri si M → s 3 = t → 0 ≤ t → t + n ≤ 400 → (∀ M', CI q r sm (upF s 3 (t + n)) (bts tx t x n) L ri si M' → Fr (fun a _ => a = 0 ∨ a = 14) M M' → Q vU M') → X G Y_X11_takeBytes d 0 0 3 [vA 0, vI x, vI (8 * (n : Int) - 8)] [] M Q
  | 0, t, s, tx, M, Q, hn, hC, ht, h0, h4, h => by
    refine B_X11_takeBytes_3 hd hC.1.1 ⟨⟨by omega, by omega⟩, fun _ => h M ?_ Fr.rf, fun w => by omega⟩
    rw [upF_id (by rw [ht]; omega)]
    exact hC
  | n + 1, t, s, tx, M, Q, hn, hC, ht, h0, h4, h => by
    have e3 : rd M 0 3 = t := by rw [hC.2.1.2.1]; exact ht
    refine B_X11_takeBytes_3 hd hC.1.1 ⟨⟨by omega, by omega⟩, fun w => by omega, fun _ => ⟨by omega, by omega, fun M4 e4 s4 M5 e5 s5 => ?_⟩⟩
    have z4 : rd M4 0 3 = t := by rw [e4, rd_wr, if_neg (by omega)]; exact e3
    rw [e3, show 8 * ((n + 1 : Nat) : Int) - 8 = 8 * (n : Int) by omega, byte_eq x (by omega)] at e4
    rw [z4] at e5
    have C5 : CI q r sm (upF s 3 (t + 1)) (upF tx t (iAnd (iShr x (8 * (n : Int))) 255)) L ri si M5 := by rw [e5, e4]; exact hC.tp.w0 (Or.inl rfl)
    have f5 : Fr (fun a _ => a = 0 ∨ a = 14) M M5 := by rw [e5, e4]; exact (Fr.rf.wr (Or.inr rfl)).wr (Or.inl rfl)
    rw [show 8 * ((n + 1 : Nat) : Int) - 8 + -8 = 8 * (n : Int) - 8 by omega]
    refine tkC hd n (t + 1) _ _ M5 Q (by omega) C5 upF_eq (by omega) (by omega) (fun M' C' f' => h M' ?_ (f5.tr f'))
    rw [upF_up, show t + 1 + (n : Int) = t + ((n + 1 : Nat) : Int) by omega] at C'
    exact C'
theorem tkM (hd : 1 ≤ d) : ∀ (n : Nat) (t : Int) (s tx : Int → Int) (M : MM) (Q : PV → MM → Prop), n ≤ 4 → MI r sm s tx L ri si M → s 3 = t → 0 ≤ t → t + n ≤ 400 → (∀ M', MI r sm (upF s 3 (t + n)) (bts tx t x n) L ri si M' → Fr KMd M M' → Q vU M') → X G Y_X12_four d 0 0 3 [vA 67, vI x, vI (8 * (n : Int) - 8)] [] M Q
  | 0, t, s, tx, M, Q, hn, hC, ht, h0, h4, h => by
    refine B_X12_four_3 hd hC.1 ⟨⟨by omega, by omega⟩, fun _ => h M ?_ Fr.rf, fun w => by omega⟩
    rw [upF_id (by rw [ht]; omega)]
    exact hC
  | n + 1, t, s, tx, M, Q, hn, hC, ht, h0, h4, h => by
    have e3 : rd M 67 8 = t := by rw [hC.2.2.2.1.2.1]; exact ht
    refine B_X12_four_3 hd hC.1 ⟨⟨by omega, by omega⟩, fun w => by omega, fun _ => ⟨by omega, by omega, fun M4 e4 s4 M5 e5 s5 => ?_⟩⟩
    have z4 : rd M4 67 8 = t := by rw [e4, rd_wr, if_neg (by omega)]; exact e3
    rw [e3, show 8 * ((n + 1 : Nat) : Int) - 8 = 8 * (n : Int) by omega] at e4
    rw [z4] at e5
    have C5 : MI r sm (upF s 3 (t + 1)) (upF tx t (iAnd (iShr x (8 * (n : Int))) 255)) L ri si M5 := by rw [e5, e4]; exact (hC.tp (iAnd255 _)).w67 (Or.inl ⟨rfl, rfl, by omega, by omega⟩)
    have f5 : Fr KMd M M5 := by rw [e5, e4]; exact (Fr.rf.wr ⟨by decide, by decide⟩).wr ⟨by decide, by decide⟩
    rw [show 8 * ((n + 1 : Nat) : Int) - 8 + -8 = 8 * (n : Int) - 8 by omega]
    refine tkM hd n (t + 1) _ _ M5 Q (by omega) C5 upF_eq (by omega) (by omega) (fun M' C' f' => h M' ?_ (f5.tr f'))
    rw [upF_up, show t + 1 + (n : Int) = t + ((n + 1 : Nat) : Int) by omega] at C'
    exact C'
theorem T_take {s tx : Int → Int} {M : MM} {Q : PV → MM → Prop} (hd : 1 ≤ d) (hC : CI q r sm s tx L ri si M) (h0 : 0 ≤ s 3) (h4 : s 3 + 4 ≤ 400) (h : ∀ M', CI q r sm (upF s 3 (s 3 + 4)) (bts tx (s 3) x 4) L ri si M' → Fr (fun a _ => a = 0 ∨ a = 14) M M' → Q vU M') : C G Y_X11_takeBytes d 0 0 [vA 0, vI x] M Q :=
  C_X11_takeBytes (B_X11_takeBytes_0 hd hC.1.1 (tkC hd 4 (s 3) s tx M Q (by decide) hC rfl h0 (by omega) h))
theorem T_four {s tx : Int → Int} {M : MM} {Q : PV → MM → Prop} (hd : 1 ≤ d) (hC : MI r sm s tx L ri si M) (h0 : 0 ≤ s 3) (h4 : s 3 + 4 ≤ 400) (h : ∀ M', MI r sm (upF s 3 (s 3 + 4)) (bts tx (s 3) x 4) L ri si M' → Fr KMd M M' → Q vU M') : C G Y_X12_four d 0 0 [vA 67, vI x] M Q :=
  C_X12_four (B_X12_four_0 hd hC.1 (tkM hd 4 (s 3) s tx M Q (by decide) hC rfl h0 (by omega) h))
theorem u3 {s : Int → Int} {a t : Int} (h : s 3 = t) : upF s 3 (s 3 + a) 3 = t + a := by rw [upF_eq, h]
theorem P_feed {a b c e f : Int} {M : MM} (h : INV q M) (hd : 60 ≤ d) : PR G d 0 0 Y_X11_feed Y_X12_feed [vI a, vI b, vI c, vI e, vI f] q M := by
  obtain ⟨r, sm, s, tx, L, ri, si, hC, hM⟩ := h
  unfold PR
  have e3 := hC.2.1.2.1
  have e8 := hM.2.2.2.1.2.1
  have hb := hM.2.2.2.2.2.2.2.2.1
  refine C_X11_feed (B_X11_feed_0 (by omega) hC.1.1 ⟨by rw [e3]; exact ⟨by omega, by omega⟩, fun w => ?_, fun w => ?_⟩)
  · rw [e3] at w
    have t1 : upF s 3 (s 3 + 4) 3 = s 3 + 4 := upF_eq
    refine T_take (by omega) hC (by omega) (by omega) (fun M2 C2 f2 => ⟨C2.1.1, ?_⟩)
    generalize hs2 : upF s 3 (s 3 + 4) = s2 at C2 t1
    generalize hx2 : bts tx (s 3) a 4 = tx2 at C2
    have t2 : upF s2 3 (s2 3 + 4) 3 = s 3 + 8 := by rw [upF_eq, t1]; omega
    refine T_take (by omega) C2 (by omega) (by omega) (fun M3 C3 f3 => ⟨C3.1.1, ?_⟩)
    generalize hs3 : upF s2 3 (s2 3 + 4) = s3 at C3 t2
    generalize hx3 : bts tx2 (s2 3) b 4 = tx3 at C3
    have t3 : upF s3 3 (s3 3 + 4) 3 = s 3 + 12 := by rw [upF_eq, t2]; omega
    refine T_take (by omega) C3 (by omega) (by omega) (fun M4 C4 f4 => ⟨C4.1.1, ?_⟩)
    generalize hs4 : upF s3 3 (s3 3 + 4) = s4 at C4 t3
    generalize hx4 : bts tx3 (s3 3) c 4 = tx4 at C4
    have t4 : upF s4 3 (s4 3 + 4) 3 = s 3 + 16 := by rw [upF_eq, t3]; omega
    refine T_take (by omega) C4 (by omega) (by omega) (fun M5 C5 f5 => ⟨C5.1.1, ?_⟩)
    generalize hs5 : upF s4 3 (s4 3 + 4) = s5 at C5 t4
    generalize hx5 : bts tx4 (s4 3) e 4 = tx5 at C5
    have t5 : upF s5 3 (s5 3 + 4) 3 = s 3 + 20 := by rw [upF_eq, t4]; omega
    refine T_take (by omega) C5 (by omega) (by omega) (fun M6 C6 f6 => ⟨C6.1.1, ?_⟩)
    generalize hs6 : upF s5 3 (s5 3 + 4) = s6 at C6 t5
    generalize hx6 : bts tx5 (s5 3) f 4 = tx6 at C6
    have ff := (((f2.tr f3).tr f4).tr f5).tr f6
    have m6 : MI r sm s tx L ri si M6 := hM.fc ff (fun a j z => by omega) C6.1.1
    have ec : rd M6 0 3 = s 3 + 20 := by rw [C6.2.1.2.1]; exact t5
    show CM G Y_X12_feed d [vA 67, vI a, vI b, vI c, vI e, vI f] M6 _
    refine CM.of C6.1.1 ?_
    refine C_X12_feed (B_X12_feed_0 (by omega) C6.1.1 (fun N1 g1 k1 => ?_))
    have em : rd N1 67 8 = s 3 := by rw [g1, rd_wr, if_neg (by decide)]; exact m6.2.2.2.1.2.1
    rw [em]
    have n1 : MI r sm s tx L ri si N1 := by rw [g1]; exact m6.thr
    have fn1 : Fr KMd M6 N1 := by rw [g1]; exact Fr.rf.wr ⟨by decide, by decide⟩
    refine ⟨⟨by omega, by omega⟩, fun _ => ?_, fun z => by omega⟩
    refine T_four (by omega) n1 (by omega) (by omega) (fun N2 n2 g2 => ⟨n2.1, ?_⟩)
    rw [hs2, hx2] at n2
    refine T_four (by omega) n2 (by omega) (by omega) (fun N3 n3 g3 => ⟨n3.1, ?_⟩)
    rw [hs3, hx3] at n3
    refine T_four (by omega) n3 (by omega) (by omega) (fun N4 n4 g4 => ⟨n4.1, ?_⟩)
    rw [hs4, hx4] at n4
    refine T_four (by omega) n4 (by omega) (by omega) (fun N5 n5 g5 => ⟨n5.1, ?_⟩)
    rw [hs5, hx5] at n5
    refine T_four (by omega) n5 (by omega) (by omega) (fun N6 n6 g6 => ⟨n6.1, ?_⟩)
    rw [hs6, hx6] at n6
    exact ⟨by rw [n6.2.2.2.1.2.1, ec]; exact t5, INV.mk' (C6.up (by omega)) n6 (((((fn1.tr g2).tr g3).tr g4).tr g5).tr g6) (fun a j z => z)⟩
  · rw [e3] at w
    show CM G Y_X12_feed d [vA 67, vI a, vI b, vI c, vI e, vI f] M _
    refine CM.of hM.1 ?_
    refine C_X12_feed (B_X12_feed_0 (by omega) hM.1 (fun N1 g1 k1 => ?_))
    subst g1
    have em : rd (wr M 67 0 0) 67 8 = s 3 := by rw [rd_wr, if_neg (by decide)]; exact e8
    rw [em]
    exact ⟨⟨by omega, by omega⟩, fun z => by omega, fun _ => ⟨rfl, fin_thr hC hM⟩⟩
end TK
