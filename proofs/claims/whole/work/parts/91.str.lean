/-! ===== the one text: its length and its letters ===== -/
def wdF (i : Int) : Int := (wordsB.getD i.toNat 0).toInt
theorem wdF_ok {i : Int} (h0 : 0 ≤ i) (h1 : i < 68) : iAnd (wdF i) 255 = wdF i ∧ 0 ≤ wdF i ∧ wdF i < 65536 ∧ narrow .char (.int (Int32.ofInt (wdF i))) = .int (Int32.ofInt (wdF i)) :=
  finI (P := fun i => iAnd (wdF i) 255 = wdF i ∧ 0 ≤ wdF i ∧ wdF i < 65536 ∧ narrow .char (.int (Int32.ofInt (wdF i))) = .int (Int32.ofInt (wdF i))) 68 (by decide +kernel) h0 h1
section ST1
variable {G : GG} {y : YY} {d k k2 n n2 pc pc2 pc3 : Nat} {xs xs' st st2 : List PV} {M M' : MM} {Q : PV → MM → Prop}
theorem x_ldcS (hd : decode y.2.1 pc = .ok (.ldc 64, 2)) (hc : y.1.cls = "StayPlay$Reader") (kk : X G y d k n (pc + 2) xs (vA (-5) :: st) M Q) : X G y d k n pc xs st M Q :=
  X.same (fun {p l e R s m args below meth c H locs cells slots Qm ls} hF hl hR hS w => by
    have ho := hF.2.2.2.2.1
    rw [hc] at ho
    exact va_ldcS hF.1 hF.2.1 ho hF.2.2.2.2.2.2.2.2.1.2.2.2.2.2.2.2.1 hd w) kk
theorem x_strV {idx : Nat} (hd : decode y.2.1 pc = .ok (.getfield idx, 3)) (hw : Cond.fieldLink y.1.cls idx "java/lang/String" "value" "[B" ∈ lw_g) (kk : X G y d k n (pc + 3) xs (vA (-6) :: st) M Q) : X G y d k n pc xs (vA (-5) :: st) M Q :=
  X.same (fun {p l e R s m args below meth c H locs cells slots Qm ls} hF hl hR hS w => by
    obtain ⟨cf, kf, fi, f, cell, h1, h2, h3, h4, h5, h6⟩ := (hR.2.2.2.2.2.2.2.2.2.1.1 0 (by decide)).2.2.1
    exact W.getf hF.1 hF.2.1 hF.2.2.2.2.1 (hF.2.2.2.2.2.1 _ hw) h1 h2 h3 h4 (v := .ref (gS G 6)) h5 rfl rfl hd w) kk
theorem x_strC {idx : Nat} (hd : decode y.2.1 pc = .ok (.getfield idx, 3)) (hw : Cond.fieldLink y.1.cls idx "java/lang/String" "coder" "B" ∈ lw_g) (kk : X G y d k n (pc + 3) xs (vI 0 :: st) M Q) : X G y d k n pc xs (vA (-5) :: st) M Q :=
  X.same (fun {p l e R s m args below meth c H locs cells slots Qm ls} hF hl hR hS w => by
    obtain ⟨cf, kf, fi, f, cell, h1, h2, h3, h4, h5, h6⟩ := (hR.2.2.2.2.2.2.2.2.2.1.1 0 (by decide)).2.1
    exact W.getf hF.1 hF.2.1 hF.2.2.2.2.1 (hF.2.2.2.2.2.1 _ hw) h1 h2 h3 h4 (v := .int 0) h5 rfl rfl hd w) kk
theorem x_getsC {idx : Nat} (hd : decode y.2.1 pc = .ok (.getstatic idx, 3)) (hw : Cond.fieldLink y.1.cls idx "java/lang/String" "COMPACT_STRINGS" "Z" ∈ lw_g) (kk : X G y d k n (pc + 3) xs (vI 1 :: st) M Q) : X G y d k n pc xs st M Q :=
  X.same (fun {p l e R s m args below meth c H locs cells slots Qm ls} hF hl hR hS w => by
    obtain ⟨cf, kf, fi, f, a, cell, h1, h2, h3, h4, h5, h6, h7, h8⟩ := hR.2.2.2.2.2.2.2.2.1.1
    exact W.gets hF.1 hF.2.1 hF.2.2.2.2.1 (hF.2.2.2.2.2.1 _ hw) h1 h2 h3 h4 h5 (fun e => by rw [e] at h6; cases h6) h7 rfl hd w) kk
theorem x_getsF {idx : Nat} (hd : decode y.2.1 pc = .ok (.getstatic idx, 3)) (hw : Cond.fieldLink y.1.cls idx "jdk/internal/util/Preconditions" "SIOOBE_FORMATTER" "Ljava/util/function/BiFunction;" ∈ lw_g) (kk : ∀ z : Int, X G y d k n (pc + 3) xs (vA z :: st) M Q) : X G y d k n pc xs st M Q := by
  intro p l e s m args below meth c H locs cells slots mc ms ls hF hk hn hl hR hS
  obtain ⟨z, cf, kf, fi, f, a, cell, h1, h2, h3, h4, h5, h6, h7, h8⟩ := hR.2.2.2.2.2.2.2.2.1.2
  have w := kk z p l e s m args below meth c H locs cells slots mc ms ls hF hk hn hl hR hS
  exact W.gets hF.1 hF.2.1 hF.2.2.2.2.1 (hF.2.2.2.2.2.1 _ hw) h1 h2 h3 h4 h5 (fun e => by rw [e] at h6; cases h6) h7 rfl hd w
theorem x_len6 (hd : decode y.2.1 pc = .ok (.arraylength, 1)) (kk : X G y d k n (pc + 1) xs (vI 68 :: st) M Q) : X G y d k n pc xs (vA (-6) :: st) M Q :=
  X.same (fun {p l e R s m args below meth c H locs cells slots Qm ls} hF hl hR hS w => by
    obtain ⟨cell, q1, q2, q3, q4, q5, q6, q7⟩ := (hR.2.2.2.2.2.2.2.2.2.1.1 0 (by decide)).2.2.2
    refine W.alen (n := Int32.ofInt 68) hF.1 hF.2.1 q1 q2 ?_ rfl rfl hd w
    rw [q5]; rfl) kk
theorem x_bal6 {i : Int} (hd : decode y.2.1 pc = .ok (.baload, 1)) (h0 : 0 ≤ i) (h1 : i < 68) (kk : X G y d k n (pc + 1) xs (vI (wdF i) :: st) M Q) : X G y d k n pc xs (vI i :: vA (-6) :: st) M Q :=
  X.same (fun {p l e R s m args below meth c H locs cells slots Qm ls} hF hl hR hS w => by
    obtain ⟨cell, q1, q2, q3, q4, q5⟩ := tb_in (hR.2.2.2.2.2.2.2.2.2.1.1 0 (by decide)).2.2.2 h0 h1 (by decide)
    have w' : W p l e R s m args below meth c H locs cells slots Qm (F0 m (pc + 1) ls (.int (wordsB.getD i.toNat 0) :: st.map (tV G))) := by
      have e : tV G (vI (wdF i)) = .int (wordsB.getD i.toNat 0) := by show Value.int (Int32.ofInt (wordsB.getD i.toNat 0).toInt) = _; rw [Int32.ofInt_toInt]
      rw [← e]; exact w
    exact W.bald hF.1 hF.2.1 q1 q2 q3 q4 q5 rfl rfl hd w') kk
theorem x_i2c {a : Int} (hd : decode y.2.1 pc = .ok (.i2c, 1)) (h0 : 0 ≤ a) (h1 : a < 65536) (kk : X G y d k n (pc + 1) xs (vI a :: st) M Q) : X G y d k n pc xs (vI a :: st) M Q :=
  X.same (fun {p l e R s m args below meth c H locs cells slots Qm ls} hF hl hR hS w => lv_i2c hF.1 hF.2.1 hd (lg_i2c_word (by rw [inR_to ⟨by omega, by omega⟩]; exact h0) (by rw [inR_to ⟨by omega, by omega⟩]; exact h1)) w) kk
theorem x_nreturn {a : Int} {ty : FieldType} (hd : decode y.2.1 pc = .ok (.ireturn, 1)) (hr : y.2.2.2 = some ty) (hn : narrow ty (.int (Int32.ofInt a)) = .int (Int32.ofInt a)) (h : Q (vI a) M) : X G y d k n pc xs [vI a] M Q := X.ret h (fun hF hq hf => W.zret hF.1 hF.2.1 (by rw [hF.2.2.1, hr]) hn hq hf hd hF.2.2.2.2.2.2.1)
theorem x_callVS {z : YY} {idx np kz nz : Nat} (as rest : List PV) {Q' : PV → MM → Prop} (hd : decode y.2.1 pc = .ok (.invokevirtual idx, 3)) (hw : cV y.1.cls z idx np) (hst : st = as.reverse ++ vA (-5) :: rest) (hnp : as.length = np) (hr8 : (rest.map (fun x => if isL x then 2 else 1)).sum ≤ 8) (hc : z.1.cls = "java/lang/String") (hd1 : 1 ≤ d)
    (hk : kz + k ≤ k2) (hn : nz + n ≤ n2) (hC : C G z (d - 1) kz nz (vA (-5) :: as) M Q') (kk : ∀ (v : PV) (M' : MM), Q' v M' → X G y d k n (pc + 3) xs (if isU v then rest else v :: rest) M' Q) : X G y d k2 n2 pc xs st M Q := by
  subst hst
  refine X.call (as := vA (-5) :: as) (rest := rest) hk hn (fun {p l e s m args below meth c H locs cells slots mc ms ls} hF hl hR hcm hsm => ?_) kk
  obtain ⟨⟨h1, h2, h3, h4⟩, h5, h6, h7⟩ := hw
  have hts := hF.2.2.2.2.2.1
  have eA : ((vA (-5) :: as).map (tV G)) = Value.ref (gS G 5) :: as.map (tV G) := rfl
  rw [eA]
  have hrv : ∃ cellB : Cell, H[gS G 5]? = some cellB ∧ cellB.vm.isStatics = false ∧ s.vm.findClass z.1.cls = some cellB.cls := by
    obtain ⟨cell, q1, q2, q3, -⟩ := (hR.2.2.2.2.2.2.2.2.2.1.1 0 (by decide)).1
    exact ⟨cell, q1, q2, by rw [hc]; exact q3⟩
  refine va_runV (Ts := lw_g) (b := gS G 5) (As := as.map (tV G)) (nL := y.2.2.1) ⟨hF.1, hF.2.1, hF.2.2.2.1, hF.2.2.2.2.1, hts⟩ (hC l) ⟨callB_of np hts (cB_ws h1) rfl rfl rfl (hts _ h2) (hts _ h5) h3 (rm_ok hd1 h4), hts _ h6, hts _ h7⟩ ⟨FrameB, hrv, fun U hU hW => ⟨by rw [eA], by rw [hU]; exact hR.moved hW.alike, hF.2.2.2.2.2.2.2.2.1.warm hW⟩⟩ rfl (by rw [List.length_map]; exact hnp) hl.1 ?_ (lv_room (by rw [vsum]; exact hr8)) hd ⟨hcm, hsm⟩
  rw [List.map_append, List.map_reverse, List.map_cons]
  rfl
end ST1
section ST2
variable {G : GG} {d : Nat} {M : MM} {Q : PV → MM → Prop}
theorem S_coder (h : Q (vI 0) M) : C G Y_J0_coder_7d493 d 0 0 [vA (-5)] M Q := by
  refine X.entry (xs := [vA (-5)]) (by decide) (Nat.le_of_ble_eq_true rfl) rfl rfl rfl ?_
  refine x_getsC (dA D_J0_coder_7d493 0 rfl) sf_RJ0_38 ?_
  refine x_if_eq (tgt := 13) (dA D_J0_coder_7d493 1 rfl) (by decide) ⟨by decide, by decide⟩ ⟨fun q => absurd q (by decide), fun _ => ?_⟩
  refine x_aload_n (dA D_J0_coder_7d493 2 rfl) rfl ?_
  refine x_strC (dA D_J0_coder_7d493 3 rfl) sf_RJ0_15 ?_
  refine x_goto (tgt := 14) (dA D_J0_coder_7d493 4 rfl) (by decide) ?_
  exact x_nreturn (dA D_J0_coder_7d493 6 rfl) rfl rfl h
theorem S_strlen (hd : 1 ≤ d) (h : Q (vI 68) M) : C G Y_J0_length_8abf5 d 0 0 [vA (-5)] M Q := by
  refine X.entry (xs := [vA (-5)]) (by decide) (Nat.le_of_ble_eq_true rfl) rfl rfl rfl ?_
  refine x_aload_n (dA D_J0_length_8abf5 0 rfl) rfl ?_
  refine x_strV (dA D_J0_length_8abf5 1 rfl) sf_RJ0_9 ?_
  refine x_len6 (dA D_J0_length_8abf5 2 rfl) ?_
  refine x_aload_n (dA D_J0_length_8abf5 3 rfl) rfl ?_
  refine x_callVS [] [vI 68] (dA D_J0_length_8abf5 4 rfl) cw_RJ0_335 rfl rfl (Nat.le_of_ble_eq_true rfl) rfl hd (zk 0) (zk 0) (S_coder (Q := rI (fun r M' => r = 0 ∧ M' = M)) ⟨rfl, rfl⟩) (kI (fun r M' q => ?_))
  obtain ⟨q1, q2⟩ := q
  subst q1 q2
  refine x_ishr (dA D_J0_length_8abf5 5 rfl) ?_
  exact x_ireturn (dA D_J0_length_8abf5 6 rfl) rfl h
theorem S_isLatin1 (h : Q (vI 1) M) : C G Y_J0_isLatin1_aae02 d 0 0 [vA (-5)] M Q := by
  refine X.entry (xs := [vA (-5)]) (by decide) (Nat.le_of_ble_eq_true rfl) rfl rfl rfl ?_
  refine x_getsC (dA D_J0_isLatin1_aae02 0 rfl) sf_RJ0_38 ?_
  refine x_if_eq (tgt := 17) (dA D_J0_isLatin1_aae02 1 rfl) (by decide) ⟨by decide, by decide⟩ ⟨fun q => absurd q (by decide), fun _ => ?_⟩
  refine x_aload_n (dA D_J0_isLatin1_aae02 2 rfl) rfl ?_
  refine x_strC (dA D_J0_isLatin1_aae02 3 rfl) sf_RJ0_15 ?_
  refine x_if_ne (tgt := 17) (dA D_J0_isLatin1_aae02 4 rfl) (by decide) ⟨by decide, by decide⟩ ⟨fun q => absurd rfl q, fun _ => ?_⟩
  refine x_iconst (dA D_J0_isLatin1_aae02 5 rfl) ?_
  refine x_goto (tgt := 18) (dA D_J0_isLatin1_aae02 6 rfl) (by decide) ?_
  exact x_zreturn (dA D_J0_isLatin1_aae02 8 rfl) rfl (Or.inr rfl) h
theorem S_checkI3 {i z : Int} (h0 : 0 ≤ i) (h1 : i < 68) (h : Q (vI i) M) : C G Y_J3_checkIndex_8e157 d 0 0 [vI i, vI 68, vA z] M Q := by
  refine X.entry (xs := [vI i, vI 68, vA z]) (by decide) (Nat.le_of_ble_eq_true rfl) rfl rfl rfl ?_
  refine x_iload_n (dA D_J3_checkIndex_8e157 0 rfl) rfl ?_
  refine x_if_lt (tgt := 9) (dA D_J3_checkIndex_8e157 1 rfl) (by decide) ⟨by omega, by omega⟩ ⟨fun q => by omega, fun _ => ?_⟩
  refine x_iload_n (dA D_J3_checkIndex_8e157 2 rfl) rfl ?_
  refine x_iload_n (dA D_J3_checkIndex_8e157 3 rfl) rfl ?_
  refine x_icmp_lt (tgt := 16) (dA D_J3_checkIndex_8e157 4 rfl) (by decide) ⟨by omega, by omega⟩ ⟨by decide, by decide⟩ ⟨fun _ => ?_, fun q => by omega⟩
  refine x_iload_n (dA D_J3_checkIndex_8e157 10 rfl) rfl ?_
  exact x_ireturn (dA D_J3_checkIndex_8e157 11 rfl) rfl h
theorem S_checkI0 {i : Int} (hd : 1 ≤ d) (h0 : 0 ≤ i) (h1 : i < 68) (h : Q vU M) : C G Y_J0_checkIndex_df160 d 0 0 [vI i, vI 68] M Q := by
  refine X.entry (xs := [vI i, vI 68]) (by decide) (Nat.le_of_ble_eq_true rfl) rfl rfl rfl ?_
  refine x_iload_n (dA D_J0_checkIndex_df160 0 rfl) rfl ?_
  refine x_iload_n (dA D_J0_checkIndex_df160 1 rfl) rfl ?_
  refine x_getsF (dA D_J0_checkIndex_df160 2 rfl) sf_RJ0_1053 (fun z => ?_)
  refine x_callS [vI i, vI 68, vA z] [] (dA D_J0_checkIndex_df160 3 rfl) cw_RJ0_1059 rfl rfl (Nat.le_of_ble_eq_true rfl) hd (zk 0) (zk 0) (S_checkI3 (Q := rI (fun r M' => M' = M)) h0 h1 rfl) (kI (fun r M' q => ?_))
  subst q
  refine x_pop (dA D_J0_checkIndex_df160 4 rfl) rfl ?_
  exact x_return (dA D_J0_checkIndex_df160 5 rfl) rfl h
theorem S_charL {i : Int} (hd : 2 ≤ d) (h0 : 0 ≤ i) (h1 : i < 68) (h : Q (vI (wdF i)) M) : C G Y_J1_charAt_3b067 d 0 0 [vA (-6), vI i] M Q := by
  obtain ⟨w1, w2, w3, w4⟩ := wdF_ok h0 h1
  refine X.entry (xs := [vA (-6), vI i]) (by decide) (Nat.le_of_ble_eq_true rfl) rfl rfl rfl ?_
  refine x_iload_n (dA D_J1_charAt_3b067 0 rfl) rfl ?_
  refine x_aload_n (dA D_J1_charAt_3b067 1 rfl) rfl ?_
  refine x_len6 (dA D_J1_charAt_3b067 2 rfl) ?_
  refine x_callS [vI i, vI 68] [] (dA D_J1_charAt_3b067 3 rfl) cw_RJ1_9 rfl rfl (Nat.le_of_ble_eq_true rfl) (by omega) (zk 0) (zk 0) (S_checkI0 (Q := rU (fun M' => M' = M)) (by omega) h0 h1 rfl) (kU (fun M' q => ?_))
  subst q
  refine x_aload_n (dA D_J1_charAt_3b067 4 rfl) rfl ?_
  refine x_iload_n (dA D_J1_charAt_3b067 5 rfl) rfl ?_
  refine x_bal6 (dA D_J1_charAt_3b067 6 rfl) h0 h1 ?_
  refine x_sipush (dA D_J1_charAt_3b067 7 rfl) (by decide) (by decide) ?_
  refine x_iand (dA D_J1_charAt_3b067 8 rfl) ?_
  rw [w1]
  refine x_i2c (dA D_J1_charAt_3b067 9 rfl) w2 w3 ?_
  exact x_nreturn (dA D_J1_charAt_3b067 10 rfl) rfl w4 h
theorem S_charAt {i : Int} (hd : 3 ≤ d) (h0 : 0 ≤ i) (h1 : i < 68) (h : Q (vI (wdF i)) M) : C G Y_J0_charAt_5068e d 0 0 [vA (-5), vI i] M Q := by
  obtain ⟨w1, w2, w3, w4⟩ := wdF_ok h0 h1
  refine X.entry (xs := [vA (-5), vI i]) (by decide) (Nat.le_of_ble_eq_true rfl) rfl rfl rfl ?_
  refine x_aload_n (dA D_J0_charAt_5068e 0 rfl) rfl ?_
  refine x_callVS [] [] (dA D_J0_charAt_5068e 1 rfl) cw_RJ0_492 rfl rfl (Nat.le_of_ble_eq_true rfl) rfl (by omega) (zk 0) (zk 0) (S_isLatin1 (Q := rI (fun r M' => r = 1 ∧ M' = M)) ⟨rfl, rfl⟩) (kI (fun r M' q => ?_))
  obtain ⟨q1, q2⟩ := q
  subst q1 q2
  refine x_if_eq (tgt := 16) (dA D_J0_charAt_5068e 2 rfl) (by decide) ⟨by decide, by decide⟩ ⟨fun q => absurd q (by decide), fun _ => ?_⟩
  refine x_aload_n (dA D_J0_charAt_5068e 3 rfl) rfl ?_
  refine x_strV (dA D_J0_charAt_5068e 4 rfl) sf_RJ0_9 ?_
  refine x_iload_n (dA D_J0_charAt_5068e 5 rfl) rfl ?_
  refine x_callS [vA (-6), vI i] [] (dA D_J0_charAt_5068e 6 rfl) cw_RJ0_495 rfl rfl (Nat.le_of_ble_eq_true rfl) (by omega) (zk 0) (zk 0) (S_charL (Q := rI (fun r M2 => r = wdF i ∧ M2 = M')) (by omega) h0 h1 ⟨rfl, rfl⟩) (kI (fun r M2 q => ?_))
  obtain ⟨q1, q2⟩ := q
  subst q1 q2
  exact x_nreturn (dA D_J0_charAt_5068e 7 rfl) rfl w4 h
end ST2
section ST3
variable {G : GG} {y : YY} {d k n pc : Nat} {xs : List PV} {M : MM} {Q : PV → MM → Prop}
theorem x_wlen {idx : Nat} (rest : List PV) (hd : decode y.2.1 pc = .ok (.invokevirtual idx, 3)) (hw : cV y.1.cls Y_J0_length_8abf5 idx 0) (hr8 : (rest.map (fun x => if isL x then 2 else 1)).sum ≤ 8) (hd1 : 2 ≤ d) (kk : X G y d k n (pc + 3) xs (vI 68 :: rest) M Q) : X G y d k n pc xs (vA (-5) :: rest) M Q :=
  x_callVS (k2 := k) (n2 := n) [] rest hd hw rfl rfl hr8 rfl (by omega) (zk k) (zk n) (S_strlen (Q := rI (fun r M' => r = 68 ∧ M' = M)) (by omega) ⟨rfl, rfl⟩) (kI (fun r M' q => by
    obtain ⟨q1, q2⟩ := q
    subst q1 q2
    exact kk))
theorem x_wch {idx : Nat} {i : Int} (rest : List PV) (hd : decode y.2.1 pc = .ok (.invokevirtual idx, 3)) (hw : cV y.1.cls Y_J0_charAt_5068e idx 1) (hr8 : (rest.map (fun x => if isL x then 2 else 1)).sum ≤ 8) (hd1 : 4 ≤ d) (hi : 0 ≤ i ∧ i < 68) (kk : X G y d k n (pc + 3) xs (vI (wdF i) :: rest) M Q) : X G y d k n pc xs (vI i :: vA (-5) :: rest) M Q :=
  x_callVS (k2 := k) (n2 := n) [vI i] rest hd hw rfl rfl hr8 rfl (by omega) (zk k) (zk n) (S_charAt (Q := rI (fun r M' => r = wdF i ∧ M' = M)) (by omega) hi.1 hi.2 ⟨rfl, rfl⟩) (kI (fun r M' q => by
    obtain ⟨q1, q2⟩ := q
    subst q1 q2
    exact kk))
end ST3
