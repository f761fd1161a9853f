theorem lt_64 {a b : Int} (ha : inL a) (hb : inL b) : Int64.ofInt a < Int64.ofInt b ↔ a < b := by
  rw [Int64.lt_iff_toInt_lt, inL_to ha, inL_to hb]
section U3
variable {G : GG} {y : YY} {d k n pc : Nat} {xs : List PV} {M : MM} {Q : PV → MM → Prop}
theorem x_mminL {idx : Nat} {a b : Int} (rest : List PV) (hd : decode y.2.1 pc = .ok (.invokestatic idx, 3)) (hw : Cond.methodLink y.1.cls idx Lib.MathLoose.min_long.x ∈ lw_g) (hr8 : (rest.map (fun x => if isL x then 2 else 1)).sum ≤ 8) (hd1 : 1 ≤ d) (ha : inL a) (hb : inL b) (kk : X G y d k n (pc + 3) xs (vL (if b < a then b else a) :: rest) M Q) : X G y d k n pc xs (vL b :: vL a :: rest) M Q := by
  intro p l e s m args below meth c H locs cells slots mc ms ls hF hk hn hl hR hS
  have w := kk p l e s m args below meth c H locs cells slots mc ms ls hF hk hn hl hR hS
  have hts := hF.2.2.2.2.2.1
  refine va_mmin_long hF.1 hF.2.1 (by rw [hF.2.2.2.1]; exact hl.1.symm) hF.2.2.2.2.1 (hts _ hw) (hts _ st_J9_min_f86c9) (hts _ in_RJ9) (hts _ cb_J9_min_f86c9.1) hd1 (by rw [vsum]; show _ ≤ 64 * d; omega) (by show cells ≤ mc; omega) (by show slots ≤ ms; omega) hd ?_
  have e2 : (if Int64.ofInt b < Int64.ofInt a then Int64.ofInt b else Int64.ofInt a) = Int64.ofInt (if b < a then b else a) := by
    by_cases q : b < a
    · rw [if_pos q, if_pos ((lt_64 hb ha).mpr q)]
    · rw [if_neg q, if_neg (fun z => q ((lt_64 hb ha).mp z))]
  rw [e2]; exact w
theorem x_mmaxL {idx : Nat} {a b : Int} (rest : List PV) (hd : decode y.2.1 pc = .ok (.invokestatic idx, 3)) (hw : Cond.methodLink y.1.cls idx Lib.MathLoose.max_long.x ∈ lw_g) (hr8 : (rest.map (fun x => if isL x then 2 else 1)).sum ≤ 8) (hd1 : 1 ≤ d) (ha : inL a) (hb : inL b) (kk : X G y d k n (pc + 3) xs (vL (if b < a then a else b) :: rest) M Q) : X G y d k n pc xs (vL b :: vL a :: rest) M Q := by
  intro p l e s m args below meth c H locs cells slots mc ms ls hF hk hn hl hR hS
  have w := kk p l e s m args below meth c H locs cells slots mc ms ls hF hk hn hl hR hS
  have hts := hF.2.2.2.2.2.1
  refine va_mmax_long hF.1 hF.2.1 (by rw [hF.2.2.2.1]; exact hl.1.symm) hF.2.2.2.2.1 (hts _ hw) (hts _ st_J9_max_f86c9) (hts _ in_RJ9) (hts _ cb_J9_max_f86c9.1) hd1 (by rw [vsum]; show _ ≤ 64 * d; omega) (by show cells ≤ mc; omega) (by show slots ≤ ms; omega) hd ?_
  have e2 : (if Int64.ofInt b < Int64.ofInt a then Int64.ofInt a else Int64.ofInt b) = Int64.ofInt (if b < a then a else b) := by
    by_cases q : b < a
    · rw [if_pos q, if_pos ((lt_64 hb ha).mpr q)]
    · rw [if_neg q, if_neg (fun z => q ((lt_64 hb ha).mp z))]
  rw [e2]; exact w
theorem x_mminI {idx : Nat} {a b : Int} (rest : List PV) (hd : decode y.2.1 pc = .ok (.invokestatic idx, 3)) (hw : Cond.methodLink y.1.cls idx Lib.Math.min.name ∈ lw_g) (hr8 : (rest.map (fun x => if isL x then 2 else 1)).sum ≤ 8) (hd1 : 1 ≤ d) (ha : inR a) (hb : inR b) (kk : X G y d k n (pc + 3) xs (vI (if b < a then b else a) :: rest) M Q) : X G y d k n pc xs (vI b :: vI a :: rest) M Q := by
  intro p l e s m args below meth c H locs cells slots mc ms ls hF hk hn hl hR hS
  have w := kk p l e s m args below meth c H locs cells slots mc ms ls hF hk hn hl hR hS
  have hts := hF.2.2.2.2.2.1
  refine va_mmin hF.1 hF.2.1 (by rw [hF.2.2.2.1]; exact hl.1.symm) hF.2.2.2.2.1 (hts _ hw) (hts _ st_J9_min_7cf53) (hts _ in_RJ9) (hts _ cb_J9_min_7cf53.1) hd1 (by rw [vsum]; show _ ≤ 64 * d; omega) (by show cells ≤ mc; omega) (by show slots ≤ ms; omega) hd ?_
  have e2 : (if Int32.ofInt b < Int32.ofInt a then Int32.ofInt b else Int32.ofInt a) = Int32.ofInt (if b < a then b else a) := by
    by_cases q : b < a
    · rw [if_pos q, if_pos ((lt_32 hb ha).mpr q)]
    · rw [if_neg q, if_neg (fun z => q ((lt_32 hb ha).mp z))]
  rw [e2]; exact w
end U3
