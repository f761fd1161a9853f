/-! ===== figures, rows in one number, gaps ===== -/
def nnF (f : Int → Int) (pl : Int) : Nat → Int
  | 0 => 0
  | m + 1 => nnF f pl m * 10 + (if pl + (8 - (m : Int)) < 112 then digF f (pl + (8 - (m : Int))) else 0)
/-- nine figures from a place on -/
def nnN (N pl : Int) : Int := nnF (lmb N) pl 9
theorem nnF_congr {f g : Int → Int} {pl : Int} (hp : 0 ≤ pl) (h : ∀ i : Int, 0 ≤ i → i < 14 → f i = g i) : ∀ m : Nat, m ≤ 9 → nnF f pl m = nnF g pl m
  | 0, _ => rfl
  | m + 1, hm => by
    rw [nnF, nnF, nnF_congr hp h m (by omega)]
    congr 1
    split
    · rw [digF_congr (h _ (by omega) (by omega))]
    · rfl
def rpk : List Int → Int
  | [] => 0
  | s :: t => s + 8 * rpk t
def pck (t : List Int) : Int := rpk t + (t.length : Int) * 32768
theorem rpk_app (t : List Int) (s : Int) : rpk (t ++ [s]) = rpk t + s * 8 ^ t.length := by
  induction t with
  | nil => simp [rpk]
  | cons a t ih => simp only [List.cons_append, rpk, ih, List.length_cons, Int.pow_succ]; grind
theorem rpk_lt : ∀ (t : List Int), (∀ x ∈ t, 0 ≤ x ∧ x < 5) → 0 ≤ rpk t ∧ rpk t < 8 ^ t.length
  | [], _ => by simp [rpk]
  | a :: t, h => by
    have h1 := rpk_lt t (fun x hx => h x (List.mem_cons_of_mem _ hx))
    have h2 := h a List.mem_cons_self
    simp only [rpk, List.length_cons, Int.pow_succ]
    omega
theorem rowf_mem {t : List Int} (h : ∀ i : Int, 0 ≤ i → i < t.length → 0 ≤ rowf t i ∧ rowf t i < 5) : ∀ x ∈ t, 0 ≤ x ∧ x < 5 := by
  intro x hx
  obtain ⟨i, hi, e⟩ := List.mem_iff_getElem.mp hx
  have := h i (by omega) (by omega)
  unfold rowf at this
  rw [Int.toNat_natCast, List.getD_eq_getElem?_getD, List.getElem?_eq_getElem hi] at this
  simp only [Option.getD_some] at this
  rw [e] at this
  exact this
theorem p8 : ∀ L : Nat, L ≤ 5 → (8 : Int) ^ L = 2 ^ (3 * L) ∧ (8 : Int) ^ L ≤ 32768 ∧ 1 ≤ (8 : Int) ^ L := fun L h => (by decide : ∀ L : Fin 6, (8 : Int) ^ L.val = 2 ^ (3 * L.val) ∧ (8 : Int) ^ L.val ≤ 32768 ∧ 1 ≤ (8 : Int) ^ L.val) ⟨L, by omega⟩
theorem iOr_comm (x y : Int) : iOr x y = iOr y x := by unfold iOr; rw [Int32.or_comm]
theorem or3 {x s : Int} (L : Nat) (hL : L ≤ 4) (hs : 0 ≤ s ∧ s < 5) (hx : 0 ≤ x ∧ x < 8 ^ L) : iOr x (iShl s (3 * (L : Int))) = x + s * 8 ^ L := by
  have e : iShl s (3 * (L : Int)) = s * 8 ^ L := by
    have := fin2 (P := fun s l => iShl s (3 * l) = s * 8 ^ l.toNat) 5 5 (by decide +kernel) hs.1 hs.2 (show 0 ≤ (L : Int) by omega) (by omega)
    simpa using this
  have h8 := p8 L (by omega)
  have m := mul_le hs.1 (show s ≤ 4 by omega) (show 0 ≤ (8 : Int) ^ L by omega) h8.2.1
  rw [e, iOr_comm, iOr_add (i := 3 * L) s (by rw [h8.1]) hs.1 (by omega) hx.1 (by rw [← h8.1]; exact hx.2) (by omega)]
  omega
theorem or15 {x L : Int} (hL : 0 ≤ L ∧ L ≤ 5) (hx : 0 ≤ x ∧ x < 32768) : iOr x (iShl L 15) = x + L * 32768 := by
  rw [iShl_15 hL.1 (by omega), iOr_comm, iOr_add (i := 15) L (by rfl) hL.1 (by omega) hx.1 (by omega) (by omega)]
  omega
theorem iShr_0 {x : Int} (hx : inR x) : iShr x 0 = x / 1 := shrN 0 (by decide) hx
theorem iShr_6 {x : Int} (hx : inR x) : iShr x 6 = x / 64 := shrN 6 (by decide) hx
theorem iShr_9 {x : Int} (hx : inR x) : iShr x 9 = x / 512 := shrN 9 (by decide) hx
theorem iShr_12 {x : Int} (hx : inR x) : iShr x 12 = x / 4096 := shrN 12 (by decide) hx
theorem and7 {x : Int} (x0 : 0 ≤ x) (x1 : x < 2147483648) : iAnd x 7 = x % 8 := iAnd_mod (x := x) 7 3 rfl x0 x1 (by decide)
theorem pck_dg {t : List Int} (hl : t.length ≤ 5) (h : ∀ x ∈ t, 0 ≤ x ∧ x < 5) : 0 ≤ pck t ∧ pck t < 196608 ∧ pck t / 32768 = t.length ∧ ∀ i : Int, 0 ≤ i → i < t.length → iAnd (iShr (pck t) (3 * i)) 7 = rowf t i := by
  have hk := rpk_lt t h
  have h8 := (p8 t.length hl).2.1
  have hb : 0 ≤ pck t ∧ pck t < 196608 := by unfold pck; omega
  have hR : inR (pck t) := ⟨by omega, by omega⟩
  refine ⟨hb.1, hb.2, by unfold pck; omega, fun i i0 i1 => ?_⟩
  have hi : i = 0 ∨ i = 1 ∨ i = 2 ∨ i = 3 ∨ i = 4 := by omega
  have e : iAnd (iShr (pck t) (3 * i)) 7 = (if i = 0 then pck t % 8 else if i = 1 then pck t / 8 % 8 else if i = 2 then pck t / 64 % 8 else if i = 3 then pck t / 512 % 8 else pck t / 4096 % 8) := by
    rcases hi with rfl | rfl | rfl | rfl | rfl
    · rw [show (3 : Int) * 0 = 0 from rfl, iShr_0 hR, and7 (by omega) (by omega)]; simp
    · rw [show (3 : Int) * 1 = 3 from rfl, iShr_3 hR, and7 (by omega) (by omega)]; simp
    · rw [show (3 : Int) * 2 = 6 from rfl, iShr_6 hR, and7 (by omega) (by omega)]; simp
    · rw [show (3 : Int) * 3 = 9 from rfl, iShr_9 hR, and7 (by omega) (by omega)]; simp
    · rw [show (3 : Int) * 4 = 12 from rfl, iShr_12 hR, and7 (by omega) (by omega)]; simp
  rw [e]
  clear e hR hb h8 hk
  unfold pck
  match t, hl, h with
  | [], _, _ => simp at i1; omega
  | [a], _, h =>
    have ha := h a (by simp)
    have : i = 0 := by simp at i1; omega
    subst this
    simp [rpk, rowf]; omega
  | [a, b], _, h =>
    have ha := h a (by simp)
    have hb := h b (by simp)
    simp at i1
    have : i = 0 ∨ i = 1 := by omega
    rcases this with rfl | rfl <;> simp [rpk, rowf] <;> omega
  | [a, b, c], _, h =>
    have ha := h a (by simp)
    have hb := h b (by simp)
    have hc := h c (by simp)
    simp at i1
    have : i = 0 ∨ i = 1 ∨ i = 2 := by omega
    rcases this with rfl | rfl | rfl <;> simp [rpk, rowf] <;> omega
  | [a, b, c, d], _, h =>
    have ha := h a (by simp)
    have hb := h b (by simp)
    have hc := h c (by simp)
    have hd := h d (by simp)
    simp at i1
    have : i = 0 ∨ i = 1 ∨ i = 2 ∨ i = 3 := by omega
    rcases this with rfl | rfl | rfl | rfl <;> simp [rpk, rowf] <;> omega
  | [a, b, c, d, e], _, h =>
    have ha := h a (by simp)
    have hb := h b (by simp)
    have hc := h c (by simp)
    have hd := h d (by simp)
    have he := h e (by simp)
    rcases hi with rfl | rfl | rfl | rfl | rfl <;> simp [rpk, rowf] <;> omega
  | a :: b :: c :: d :: e :: f :: t, hl, _ => simp at hl
section FG
variable {G : GG} {d : Nat} {M : MM} {Q : PV → MM → Prop}
theorem T_X2_above {a pl : Int} (ha : Ar M a 0 14) (hn : nrm (rd M a) 0 14) (hp : 0 ≤ pl ∧ pl ≤ 112) (hd : 2 ≤ d) (h : Q (vI (dgN (vl (rd M a) 0 14) pl)) M) : C G Y_X2_above d 0 0 [vA a, vI pl] M Q := by
  refine C_X2_above (B_X2_above_0 (by omega) ?_)
  have key : ∀ m k : Nat, (k : Int) + m = 112 - pl → X G Y_X2_above d 0 0 5 [vA a, vI pl, vI (dgsF (rd M a) k), vI (111 - (k : Int))] [] M Q := by
    intro m
    induction m with
    | zero =>
      intro k hk
      refine B_X2_above_5 hd ⟨⟨by omega, by omega⟩, ⟨by omega, by omega⟩, fun _ => ?_, fun q => by omega⟩
      unfold dgN at h
      rw [show (112 - pl).toNat = k by omega, ← dgsF_congr (limbs hn rfl) k (by omega)] at h
      exact h
    | succ m ih =>
      intro k hk
      refine B_X2_above_5 hd ⟨⟨by omega, by omega⟩, ⟨by omega, by omega⟩, fun q => by omega, fun _ => ⟨ha, hn, ⟨by omega, by omega⟩, fun v6 e6 => ?_⟩⟩
      rw [if_pos (show 111 - (k : Int) < 112 by omega)] at e6
      have := ih (k + 1) (by omega)
      rw [dgsF, ← e6, show (111 : Int) - ((k + 1 : Nat) : Int) = 111 - (k : Int) + (-1) by omega] at this
      exact this
  exact key (112 - pl).toNat 0 (by omega)
theorem T_X2_nine {a pl : Int} (ha : Ar M a 0 14) (hn : nrm (rd M a) 0 14) (hp : 0 ≤ pl ∧ pl ≤ 1000) (hd : 2 ≤ d) (h : Q (vI (nnN (vl (rd M a) 0 14) pl)) M) : C G Y_X2_nine d 0 0 [vA a, vI pl] M Q := by
  refine C_X2_nine (B_X2_nine_0 (by omega) ?_)
  have key : ∀ m k : Nat, k + m = 9 → X G Y_X2_nine d 0 0 5 [vA a, vI pl, vI (nnF (rd M a) pl k), vI (8 - (k : Int))] [] M Q := by
    intro m
    induction m with
    | zero =>
      intro k hk
      refine B_X2_nine_5 hd ⟨⟨by omega, by omega⟩, fun _ => ?_, fun q => by omega⟩
      unfold nnN at h
      have : k = 9 := by omega
      subst this
      rw [← nnF_congr hp.1 (limbs hn rfl) 9 (by omega)] at h
      exact h
    | succ m ih =>
      intro k hk
      refine B_X2_nine_5 hd ⟨⟨by omega, by omega⟩, fun q => by omega, fun _ => ⟨ha, hn, ⟨by omega, by omega⟩, fun v6 e6 => ?_⟩⟩
      have := ih (k + 1) (by omega)
      rw [nnF, ← e6, show (8 : Int) - ((k + 1 : Nat) : Int) = 8 - (k : Int) + (-1) by omega] at this
      exact this
  exact key 9 0 rfl
def KT0 (a j : Int) : Prop := a = 31 ∨ (a = 30 ∧ j = 4)
theorem T_X3_takeRow {t : List Int} (hS : Sh M) (hl : t.length ≤ 5) (ht : ∀ x ∈ t, 0 ≤ x ∧ x < 5) (hd : 1 ≤ d) (h : ∀ M', Fr KT0 M M' → Sh M' → rd M' 30 4 = t.length → (∀ i : Int, 0 ≤ i → i < t.length → rd M' 31 i = rowf t i) → Q vU M') : C G Y_X3_takeRow d 0 0 [vA 30, vI (pck t)] M Q := by
  obtain ⟨p1, p2, p3, p4⟩ := pck_dg hl ht
  refine C_X3_takeRow (B_X3_takeRow_0 hd hS fun M1 e1 hS1 => ?_)
  rw [iShr_15 ⟨by omega, by omega⟩, p3, if_neg (by omega)] at e1
  have key : ∀ m k : Nat, k + m = t.length → ∀ Mk, Fr KT0 M Mk → Sh Mk → rd Mk 30 4 = t.length → (∀ i : Int, 0 ≤ i → i < k → rd Mk 31 i = rowf t i) → X G Y_X3_takeRow d 0 0 14 [vA 30, vI (pck t), vI k] [] Mk Q := by
    intro m
    induction m with
    | zero =>
      intro k hk Mk fk hSk e4 hr
      refine B_X3_takeRow_14 hd hSk ?_
      rw [e4]
      exact ⟨⟨by omega, by omega⟩, ⟨by omega, by omega⟩, fun _ => h Mk fk hSk e4 (fun i i0 i1 => hr i i0 (by omega)), fun q => by omega⟩
    | succ m ih =>
      intro k hk Mk fk hSk e4 hr
      refine B_X3_takeRow_14 hd hSk ?_
      rw [e4]
      refine ⟨⟨by omega, by omega⟩, ⟨by omega, by omega⟩, fun q => by omega, fun _ => ⟨by omega, by omega, fun M5 e5 hS5 => ?_⟩⟩
      rw [p4 k (by omega) (by omega)] at e5
      refine ih (k + 1) (by omega) M5 (by rw [e5]; exact fk.wr (Or.inl rfl)) hS5 (by rw [e5, rd_wr, if_neg (by omega)]; exact e4) (fun i i0 i1 => ?_)
      rw [e5, rd_wr]
      by_cases q : i = k
      · rw [if_pos ⟨rfl, q⟩, q]
      · rw [if_neg (fun w => q w.2)]; exact hr i i0 (by omega)
  exact key t.length 0 (by omega) M1 (by rw [e1]; exact Fr.rf.wr (Or.inr ⟨rfl, rfl⟩)) hS1 (by rw [e1, rd_wr, if_pos ⟨rfl, rfl⟩]) (fun i i0 i1 => by omega)
/-- a gap in hundredths, cut -/
def gpN (A B : Int) : Int := if B ≤ A then dgN (A - B) 98 else -(dgN (B - A) 98)
theorem T_X12_lessOf {a at' b A B : Int} (hS : Sh M) (ha : Ar M a at' 14) (hb : Ar M b 0 14) (hna : a ≠ 84) (hnb : b ≠ 84) (nA : nrm (rd M a) at' 14) (eA : vl (rd M a) at' 14 = A) (nB : nrm (rd M b) 0 14) (eB : vl (rd M b) 0 14 = B) (hd : 3 ≤ d)
    (h : ∀ M', Ch M M' 84 0 14 → Sh M' → Q (vI (gpN A B)) M') : C G Y_X12_lessOf d 0 0 [vA 67, vA a, vI at', vA b] M Q := by
  refine C_X12_lessOf (B_X12_lessOf_0 (by omega) hS ⟨ha, hb, nA, nB, fun v5 e5 => ⟨hS.Ar 84 14 rfl ⟨by decide, by decide, by decide, by decide⟩ (by decide), fun M7 e7 hS7 => ?_⟩⟩)
  rw [eA, eB] at e5
  have hv5 : inR v5 := by rw [e5]; exact cmpI_R
  have c7 := e7.1
  have sgn : 0 ≤ v5 ↔ B ≤ A := by
    rw [e5]; unfold cmpI
    split
    · omega
    · split <;> omega
  -- the greater and the lesser
  have key : ∀ m k : Nat, k + m = 14 → ∀ (Mk : MM) (c : Int), Ch M Mk 84 0 14 → Sh Mk → nrm (rd Mk 84) 0 k → (c = 0 ∨ c = 1) → vl (rd Mk 84) 0 k - c * Bp k = (if 0 ≤ v5 then vl (rd M a) at' k - vl (rd M b) 0 k else vl (rd M b) 0 k - vl (rd M a) at' k) → X G Y_X12_lessOf d 0 0 23 [vA 67, vA a, vI at', vA b, vI v5, vL c, vU, vI k, vU, vU] [] Mk Q := by
    intro m
    induction m with
    | zero =>
      intro k hk Mk c hC hSk hn c0 he
      have : k = 14 := by omega
      subst this
      have hv2 := vl_lt hn
      rw [eA, eB] at he
      have hz : c = 0 := by
        rcases c0 with q | q
        · exact q
        · subst q; split at he <;> omega
      subst hz
      refine B_X12_lessOf_23 (by omega) hSk ⟨⟨by omega, by omega⟩, fun _ => ?_, fun z => by omega⟩
      refine T_X12_digits (hSk.Ar 84 14 rfl ⟨by decide, by decide, by decide, by decide⟩ (by decide)) hn ⟨by decide, by decide⟩ (by omega) ?_
      show Sh Mk ∧ _
      refine ⟨hSk, hv5, ?_⟩
      have hh := h Mk hC hSk
      unfold gpN at hh
      by_cases q : 0 ≤ v5
      · rw [if_pos q] at he ⊢
        rw [if_pos (sgn.mp q)] at hh
        rw [show vl (rd Mk 84) 0 14 = A - B by omega]; exact hh
      · rw [if_neg q] at he ⊢
        rw [if_neg (fun w => q (sgn.mpr w))] at hh
        rw [show vl (rd Mk 84) 0 14 = B - A by omega]; exact hh
    | succ m ih =>
      intro k hk Mk c hC hSk hn c0 he
      have eT : ∀ j, rd Mk a j = rd M a j := fun j => hC.2.2 _ _ (by omega)
      have eU : ∀ j, rd Mk b j = rd M b j := fun j => hC.2.2 _ _ (by omega)
      have bT := nA k (by omega) (by omega)
      have bB := nB k (by omega) (by omega)
      rw [Int.zero_add] at bB
      have c1 : 0 ≤ c ∧ c ≤ 1 := by omega
      have oa := (ha.ch hC).ok (i := at' + k) (by omega) (by omega)
      have ob := (hb.ch hC).ok (i := (k : Int)) (by omega) (by omega)
      have fin : ∀ v : Int, inL v → -100000000 ≤ v → v < 100000000 → vl (rd Mk 84) 0 k - c * Bp k + (v + c) * Bp k = (if 0 ≤ v5 then vl (rd M a) at' (k + 1) - vl (rd M b) 0 (k + 1) else vl (rd M b) 0 (k + 1) - vl (rd M a) at' (k + 1)) → ∀ v20, v20 = (if 0 ≤ v then 0 else 1) → ∀ M29, M29 = wr Mk 84 k (if 0 ≤ v then v else (v + 100000000)) → Sh M29 → X G Y_X12_lessOf d 0 0 23 [vA 67, vA a, vI at', vA b, vI v5, vL v20, vU, vI ((k : Int) + 1), vU, vU] [] M29 Q := by
        intro v _ vl1 vl2 hv w ew M1 e1 hS1
        have hw : (w = 0 ∧ 0 ≤ v) ∨ (w = 1 ∧ v < 0) := by
          by_cases q : 0 ≤ v
          · rw [if_pos q] at ew; exact Or.inl ⟨ew, q⟩
          · rw [if_neg q] at ew; exact Or.inr ⟨ew, by omega⟩
        have e1' : M1 = wr Mk 84 k (v + w * 100000000) := by
          rw [e1]
          rcases hw with ⟨q1, q2⟩ | ⟨q1, q2⟩
          · rw [if_pos q2, q1, Int.zero_mul, Int.add_zero]
          · rw [if_neg (by omega), q1, Int.one_mul]
        have hrd : ∀ i : Int, 0 ≤ i → i < k → rd M1 84 (0 + i) = rd Mk 84 (0 + i) := fun i i0 i1 => by rw [e1', rd_wr, if_neg (by omega)]
        have hrk : rd M1 84 (0 + k) = v + w * 100000000 := by rw [e1', rd_wr, if_pos ⟨rfl, by omega⟩]
        refine ih (k + 1) (by omega) M1 w (by rw [e1']; exact hC.wr (by omega) (by omega)) hS1 (fun i i0 i1 => ?_) (by omega) ?_
        · by_cases q : i = k
          · subst q; rw [hrk]; omega
          · rw [hrd i i0 (by omega)]; exact hn i i0 (by omega)
        · rw [← hv, vl, vl_congr (fun i i0 i1 => hrd i i0 i1), hrk, Bp_s]
          grind
      refine B_X12_lessOf_23 (by omega) hSk ?_
      rw [eT, eU]
      refine ⟨⟨by omega, by omega⟩, fun z => by omega, fun _ => ⟨hv5, fun q => ⟨ob, oa, fun v13 e13 v14 e14 => ⟨⟨by omega, by omega⟩, fun v20 e20 => ⟨by omega, by omega, fun M29 e29 hS29 => fin v14 ⟨by omega, by omega⟩ (by omega) (by omega) ?_ v20 e20 M29 e29 hS29⟩⟩⟩, fun q => ⟨oa, ob, fun v13 e13 v14 e14 => ⟨⟨by omega, by omega⟩, fun v20 e20 => ⟨by omega, by omega, fun M29 e29 hS29 => fin v14 ⟨by omega, by omega⟩ (by omega) (by omega) ?_ v20 e20 M29 e29 hS29⟩⟩⟩⟩⟩
      · rw [he, if_neg (by omega), if_neg (by omega), vl, vl, e14, e13, Int.zero_add]
        grind
      · rw [he, if_pos q, if_pos q, vl, vl, e14, e13, Int.zero_add]
        grind
  exact key 14 0 rfl M7 0 c7 hS7 (fun i h0 h1 => by omega) (Or.inl rfl) (by simp [vl])
end FG
