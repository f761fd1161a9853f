/-! ===== evenings by draws ===== -/
def drw (s : Int) : Int := (s * 1103 + 12345) % 1000003
theorem drw_ok {s : Int} : 0 ≤ drw s ∧ drw s < 1000003 := by unfold drw; omega
def stF (c s : Int) : Nat → Int × Int
  | 0 => (s, 0)
  | k + 1 => (drw (stF c s k).1, (stF c s k).2 + (if drw (stF c s k).1 % 100 < c then 1 else 0))
theorem stF_ok {c s : Int} (hs : 0 ≤ s ∧ s < 1000003) : ∀ n : Nat, 0 ≤ (stF c s n).1 ∧ (stF c s n).1 < 1000003 ∧ 0 ≤ (stF c s n).2 ∧ (stF c s n).2 ≤ n ∧ (c = 100 → (stF c s n).2 = n) ∧ (c = 0 → (stF c s n).2 = 0)
  | 0 => ⟨hs.1, hs.2, by show (0 : Int) ≤ 0; decide, by show (0 : Int) ≤ 0; decide, fun _ => rfl, fun _ => rfl⟩
  | n + 1 => by
    have ih := stF_ok (c := c) hs n
    have hd := @drw_ok (stF c s n).1
    simp only [stF]
    refine ⟨hd.1, hd.2, ?_, ?_, fun e => ?_, fun e => ?_⟩
    · split <;> omega
    · split <;> omega
    · have := ih.2.2.2.2.1 e
      rw [if_pos (by omega)]; omega
    · have := ih.2.2.2.2.2 e
      rw [if_neg (by omega)]; omega
theorem stF_told {z c s : Int} (hz : 0 ≤ z) : stF (if 0 < z then c else 0) s z.toNat = stF c s z.toNat := by
  by_cases q : 0 < z
  · rw [if_pos q]
  · have : z = 0 := by omega
    subst this; rfl
abbrev EV : Type := List (Int × Int × Int) × Int × Int × Int
def evS (r : Int → Int) (sm : Int → LSm) (c p l z o s : Int) : (Int × Int) × (Int × Int) := (stF (chn r sm 0 c p l z o) s z.toNat, stF (chn r sm 1 c p l z o) (stF (chn r sm 0 c p l z o) s z.toNat).1 o.toNat)
def evF (r : Int → Int) (sm : Int → LSm) (ch : Int → Int → Int → Int → Int) : Nat → Int → Int → Int → Int → Int → EV
  | 0, _, _, _, _, s => ([], 0, 0, s)
  | n + 1, p, l, z, o, s => if z + o ≤ 0 ∨ ch p l z o = -1 then ([], 0, 0, s) else if r (12 + 3 * ch p l z o) = 1 then ([(ch p l z o, z, o)], z, o, s)
    else ((ch p l z o, z, o) :: (evF r sm ch n (sb p (ch p l z o)) (ch p l z o) (evS r sm (ch p l z o) p l z o s).1.2 (evS r sm (ch p l z o) p l z o s).2.2 (evS r sm (ch p l z o) p l z o s).2.1).1, (evF r sm ch n (sb p (ch p l z o)) (ch p l z o) (evS r sm (ch p l z o) p l z o s).1.2 (evS r sm (ch p l z o) p l z o s).2.2 (evS r sm (ch p l z o) p l z o s).2.1).2)
def chR (r : Int → Int) (ch : Int → Int → Int → Int → Int) : Prop := ∀ p l z o : Int, NS p l → RZ z o → -1 ≤ ch p l z o ∧ ch p l z o < 5 ∧ (ch p l z o ≠ -1 → bt (canB r p) (ch p l z o) = 1)
theorem evS_ok {r : Int → Int} {sm : Int → LSm} {c p l z o s : Int} (hz : RZ z o) (hs : 0 ≤ s ∧ s < 1000003) : spt z (chn r sm 0 c p l z o) (evS r sm c p l z o s).1.2 ∧ spt o (chn r sm 1 c p l z o) (evS r sm c p l z o s).2.2 ∧ 0 ≤ (evS r sm c p l z o s).2.1 ∧ (evS r sm c p l z o s).2.1 < 1000003 ∧ RZ (evS r sm c p l z o s).1.2 (evS r sm c p l z o s).2.2 := by
  have h1 := stF_ok (c := chn r sm 0 c p l z o) hs z.toNat
  have h2 := stF_ok (c := chn r sm 1 c p l z o) ⟨h1.1, h1.2.1⟩ o.toNat
  obtain ⟨⟨z0, z1⟩, o0, o1⟩ := hz
  unfold evS
  refine ⟨⟨h1.2.2.1, ?_, fun e => ?_, h1.2.2.2.2.2⟩, ⟨h2.2.2.1, ?_, fun e => ?_, h2.2.2.2.2.2⟩, h2.1, h2.2.1, ⟨h1.2.2.1, ?_⟩, ⟨h2.2.2.1, ?_⟩⟩
  · have := h1.2.2.2.1; dsimp only; omega
  · have := h1.2.2.2.2.1 e; dsimp only; omega
  · have := h2.2.2.2.1; dsimp only; omega
  · have := h2.2.2.2.2.1 e; dsimp only; omega
  · have := h1.2.2.2.1; dsimp only; omega
  · have := h2.2.2.2.1; dsimp only; omega
theorem evF_ok {r : Int → Int} {sm : Int → LSm} {ch : Int → Int → Int → Int → Int} (hV : RS r) (hch : chR r ch) : ∀ (n : Nat) (p l z o s : Int), NS p l → RZ z o → (0 ≤ s ∧ s < 1000003) → (evF r sm ch n p l z o s).1.length ≤ n ∧ (∀ x ∈ (evF r sm ch n p l z o s).1, 0 ≤ x.1 ∧ x.1 < 5) ∧ RZ (evF r sm ch n p l z o s).2.1 (evF r sm ch n p l z o s).2.2.1 ∧ 0 ≤ (evF r sm ch n p l z o s).2.2.2 ∧ (evF r sm ch n p l z o s).2.2.2 < 1000003
  | 0, p, l, z, o, s, _, _, hs => ⟨Nat.le_refl _, fun x hx => by simp [evF] at hx, ⟨⟨by show (0 : Int) ≤ 0; decide, by show (0 : Int) < 6; decide⟩, ⟨by show (0 : Int) ≤ 0; decide, by show (0 : Int) < 6; decide⟩⟩, hs.1, hs.2⟩
  | n + 1, p, l, z, o, s, hn, hz, hs => by
    have hc := hch p l z o hn hz
    rw [evF]
    split
    · exact ⟨Nat.zero_le _, fun x hx => by simp at hx, ⟨⟨by show (0 : Int) ≤ 0; decide, by show (0 : Int) < 6; decide⟩, ⟨by show (0 : Int) ≤ 0; decide, by show (0 : Int) < 6; decide⟩⟩, hs.1, hs.2⟩
    · rename_i q
      have q2 : ch p l z o ≠ -1 := fun w => q (Or.inr w)
      split
      · exact ⟨by simp, fun x hx => by simp at hx; rw [hx]; dsimp only; omega, hz, hs.1, hs.2⟩
      · have hcs := canB_s hV hn.1 ⟨show 0 ≤ ch p l z o by omega, hc.2.1⟩ (hc.2.2 q2)
        have hns := (NS_next hn ⟨show 0 ≤ ch p l z o by omega, hc.2.1⟩ hcs.2).1
        have he := evS_ok (r := r) (sm := sm) (c := ch p l z o) (p := p) (l := l) hz hs
        have ih := evF_ok hV hch (sm := sm) n (sb p (ch p l z o)) (ch p l z o) (evS r sm (ch p l z o) p l z o s).1.2 (evS r sm (ch p l z o) p l z o s).2.2 (evS r sm (ch p l z o) p l z o s).2.1 hns he.2.2.2.2 ⟨he.2.2.1, he.2.2.2.1⟩
        refine ⟨by simp only [List.length_cons]; omega, fun x hx => ?_, ih.2.2⟩
        rcases List.mem_cons.mp hx with e | e
        · rw [e]; dsimp only; omega
        · exact ih.2.1 x e
/-- a world of the class holds a row of scenes -/
def WDs (M : MM) (w : Int) (L : List (Int × Int × Int)) : Prop := rd M w 7 = L.length ∧ ∀ i : Nat, i < L.length → rd M (w + 1) i = (L.getD i (0, 0, 0)).1 ∧ rd M (w + 2) i = (L.getD i (0, 0, 0)).2.1 ∧ rd M (w + 3) i = (L.getD i (0, 0, 0)).2.2
def KWd (w a j : Int) : Prop := KTd a j ∨ a = w + 1 ∨ a = w + 2 ∨ a = w + 3 ∨ (a = w ∧ (j = 3 ∨ j = 7 ∨ j = 8 ∨ j = 9))
def WMs (M : MM) (L : List (Int × Int × Int)) : Prop := rd M 67 48 = L.length ∧ ∀ i : Nat, i < L.length → rd M 92 (3 * (i : Int)) = (L.getD i (0, 0, 0)).1 ∧ rd M 92 (3 * (i : Int) + 1) = (L.getD i (0, 0, 0)).2.1 ∧ rd M 92 (3 * (i : Int) + 2) = (L.getD i (0, 0, 0)).2.2
def KWm (a j : Int) : Prop := KA a j ∨ a = 92 ∨ (a = 67 ∧ (j = 47 ∨ j = 48 ∨ j = 50 ∨ j = 51))
theorem getD_last (L : List (Int × Int × Int)) (x : Int × Int × Int) : (L ++ [x]).getD L.length (0, 0, 0) = x := by simp
theorem getD_init (L : List (Int × Int × Int)) (x : Int × Int × Int) {i : Nat} (h : i < L.length) : (L ++ [x]).getD i (0, 0, 0) = L.getD i (0, 0, 0) := by
  rw [List.getD_eq_getElem?_getD, List.getD_eq_getElem?_getD, List.getElem?_append_left h]
theorem WDs.add {M M1 M2 M3 M4 : MM} {w a b c : Int} {L : List (Int × Int × Int)} (h : WDs M w L) (e1 : M1 = wr M (w + 1) L.length a) (e2 : M2 = wr M1 (w + 2) L.length b) (e3 : M3 = wr M2 (w + 3) L.length c) (e4 : M4 = wr M3 w 7 (rd M3 w 7 + 1)) : WDs M4 w (L ++ [(a, b, c)]) := by
  have z7 : rd M3 w 7 = rd M w 7 := by rw [e3, rd_wr, if_neg (by omega), e2, rd_wr, if_neg (by omega), e1, rd_wr, if_neg (by omega)]
  have y1 : ∀ j, rd M4 (w + 1) j = rd M1 (w + 1) j := fun j => by rw [e4, rd_wr, if_neg (by omega), e3, rd_wr, if_neg (by omega), e2, rd_wr, if_neg (by omega)]
  have y2 : ∀ j, rd M4 (w + 2) j = rd M2 (w + 2) j := fun j => by rw [e4, rd_wr, if_neg (by omega), e3, rd_wr, if_neg (by omega)]
  have y3 : ∀ j, rd M4 (w + 3) j = rd M3 (w + 3) j := fun j => by rw [e4, rd_wr, if_neg (by omega)]
  refine ⟨by rw [e4, rd_wr, if_pos ⟨rfl, rfl⟩, z7, h.1]; simp, fun i hi => ?_⟩
  simp only [List.length_append, List.length_cons, List.length_nil] at hi
  by_cases q : i = L.length
  · subst q
    rw [getD_last, y1, y2, y3, e3, rd_wr, if_pos ⟨rfl, rfl⟩, e2, rd_wr, if_pos ⟨rfl, rfl⟩, e1, rd_wr, if_pos ⟨rfl, rfl⟩]
    exact ⟨rfl, rfl, rfl⟩
  · rw [getD_init L _ (by omega), y1, y2, y3, e3, rd_wr, if_neg (by omega), e2, rd_wr, if_neg (by omega), rd_wr, if_neg (by omega), e1, rd_wr, if_neg (by omega), rd_wr, if_neg (by omega), rd_wr, if_neg (by omega)]
    exact h.2 i (by omega)
theorem WMs.add {M M1 M2 M3 M4 : MM} {a b c : Int} {L : List (Int × Int × Int)} (h : WMs M L) (e1 : M1 = wr M 92 (3 * (L.length : Int)) a) (e2 : M2 = wr M1 92 (3 * (L.length : Int) + 1) b) (e3 : M3 = wr M2 92 (3 * (L.length : Int) + 2) c) (e4 : M4 = wr M3 67 48 (rd M3 67 48 + 1)) : WMs M4 (L ++ [(a, b, c)]) := by
  have z7 : rd M3 67 48 = rd M 67 48 := by rw [e3, rd_wr, if_neg (by omega), e2, rd_wr, if_neg (by omega), e1, rd_wr, if_neg (by omega)]
  have y : ∀ j, rd M4 92 j = rd M3 92 j := fun j => by rw [e4, rd_wr, if_neg (by omega)]
  refine ⟨by rw [e4, rd_wr, if_pos ⟨rfl, rfl⟩, z7, h.1]; simp, fun i hi => ?_⟩
  simp only [List.length_append, List.length_cons, List.length_nil] at hi
  rw [y, y, y]
  by_cases q : i = L.length
  · subst q
    rw [getD_last]
    refine ⟨?_, ?_, ?_⟩
    · rw [e3, rd_wr, if_neg (by omega), e2, rd_wr, if_neg (by omega), e1, rd_wr, if_pos ⟨rfl, rfl⟩]
    · rw [e3, rd_wr, if_neg (by omega), e2, rd_wr, if_pos ⟨rfl, rfl⟩]
    · rw [e3, rd_wr, if_pos ⟨rfl, rfl⟩]
  · rw [getD_init L _ (by omega)]
    have := h.2 i (by omega)
    refine ⟨?_, ?_, ?_⟩
    · rw [e3, rd_wr, if_neg (by omega), e2, rd_wr, if_neg (by omega), e1, rd_wr, if_neg (by omega)]; exact this.1
    · rw [e3, rd_wr, if_neg (by omega), e2, rd_wr, if_neg (by omega), e1, rd_wr, if_neg (by omega)]; exact this.2.1
    · rw [e3, rd_wr, if_neg (by omega), e2, rd_wr, if_neg (by omega), e1, rd_wr, if_neg (by omega)]; exact this.2.2
section DW
variable {G : GG} {d : Nat} {M : MM} {Q : PV → MM → Prop} {r : Int → Int} {sm : Int → LSm}
theorem T_X10_draw {w n s : Int} (hw : w = 59 ∨ w = 63) (hS : Sh M) (es : rd M w 3 = s) (hs : 0 ≤ s ∧ s < 1000003) (hn : 0 < n ∧ n ≤ 1000) (hd : 1 ≤ d) (h : ∀ M', M' = wr M w 3 (drw s) → Sh M' → Q (vI (drw s % n)) M') : C G Y_X10_draw d 0 0 [vA w, vI n] M Q := by
  refine C_X10_draw (B_X10_draw_0 hd hw hS ?_)
  rw [es]
  refine ⟨⟨by omega, by omega⟩, fun M2 e2 hS2 => ⟨⟨by omega, by omega⟩, fun q => by omega, fun _ => ?_⟩⟩
  rw [Int.tmod_eq_emod_of_nonneg (by omega)] at e2
  have e2' : M2 = wr M w 3 (drw s) := e2
  have ed : rd M2 w 3 = drw s := by rw [e2', rd_wr, if_pos ⟨rfl, rfl⟩]
  have hk := @drw_ok s
  rw [ed, Int.tmod_eq_emod_of_nonneg hk.1]
  exact ⟨⟨by omega, by omega⟩, by omega, h M2 e2' hS2⟩
theorem T_X12_draw {n s : Int} (hS : Sh M) (es : rd M 67 47 = s) (hs : 0 ≤ s ∧ s < 1000003) (hn : 0 < n ∧ n ≤ 1000) (hd : 1 ≤ d) (h : ∀ M', M' = wr M 67 47 (drw s) → Sh M' → Q (vI (drw s % n)) M') : C G Y_X12_draw d 0 0 [vA 67, vI n] M Q := by
  refine C_X12_draw (B_X12_draw_0 hd hS ?_)
  rw [es]
  refine ⟨⟨by omega, by omega⟩, fun M2 e2 hS2 => ⟨⟨by omega, by omega⟩, ?_⟩⟩
  rw [Int.tmod_eq_emod_of_nonneg (by omega)] at e2
  have e2' : M2 = wr M 67 47 (drw s) := e2
  have ed : rd M2 67 47 = drw s := by rw [e2', rd_wr, if_pos ⟨rfl, rfl⟩]
  have hk := @drw_ok s
  rw [ed, Int.tmod_eq_emod_of_nonneg hk.1]
  exact ⟨⟨by omega, by omega⟩, by omega, h M2 e2' hS2⟩
theorem T_X10_staying {w n c s : Int} (hw : w = 59 ∨ w = 63) (hS : Sh M) (es : rd M w 3 = s) (hs : 0 ≤ s ∧ s < 1000003) (hn : 0 ≤ n ∧ n < 6) (hc : 0 ≤ c ∧ c ≤ 100) (hd : 2 ≤ d) (h : ∀ M', Fr (fun a j => a = w ∧ j = 3) M M' → Sh M' → rd M' w 3 = (stF c s n.toNat).1 → Q (vI (stF c s n.toNat).2) M') : C G Y_X10_staying d 0 0 [vA w, vI n, vI c] M Q := by
  refine C_X10_staying (B_X10_staying_0 (by omega) hw hS ?_)
  have key : ∀ m k : Nat, (k : Int) + m = n → ∀ Mk, Fr (fun a j => a = w ∧ j = 3) M Mk → Sh Mk → rd Mk w 3 = (stF c s k).1 → X G Y_X10_staying d 0 0 5 [vA w, vI n, vI c, vI (stF c s k).2, vI k] [] Mk Q := by
    intro m
    induction m with
    | zero =>
      intro k ek Mk fk hSk e3
      have : n.toNat = k := by omega
      rw [this] at h
      exact B_X10_staying_5 hd hw hSk ⟨⟨by omega, by omega⟩, ⟨by omega, by omega⟩, fun _ => h Mk fk hSk e3, fun q => by omega⟩
    | succ m ih =>
      intro k ek Mk fk hSk e3
      have hk := stF_ok (c := c) hs k
      have hdk := @drw_ok (stF c s k).1
      refine B_X10_staying_5 hd hw hSk ⟨⟨by omega, by omega⟩, ⟨by omega, by omega⟩, fun q => by omega, fun _ => ?_⟩
      refine T_X10_draw hw hSk e3 ⟨hk.1, hk.2.1⟩ ⟨by decide, by decide⟩ (by omega) (fun M3 e3' hS3 => ?_)
      show Sh M3 ∧ _
      have f3 : Fr (fun a j => a = w ∧ j = 3) M M3 := by rw [e3']; exact fk.wr ⟨rfl, rfl⟩
      have r3 : rd M3 w 3 = (stF c s (k + 1)).1 := by rw [e3', rd_wr, if_pos ⟨rfl, rfl⟩]; rfl
      refine ⟨hS3, ⟨by omega, by omega⟩, ⟨by omega, by omega⟩, fun q => ?_, fun q => ?_⟩
      · have := ih (k + 1) (by omega) M3 f3 hS3 r3
        have e : (stF c s (k + 1)).2 = (stF c s k).2 := by simp only [stF]; rw [if_neg (by omega), Int.add_zero]
        rw [e] at this; exact this
      · have := ih (k + 1) (by omega) M3 f3 hS3 r3
        have e : (stF c s (k + 1)).2 = (stF c s k).2 + 1 := by simp only [stF]; rw [if_pos q]
        rw [e] at this; exact this
  exact key n.toNat 0 (by omega) M Fr.rf hS es
theorem T_X12_staying {n c s : Int} (hS : Sh M) (es : rd M 67 47 = s) (hs : 0 ≤ s ∧ s < 1000003) (hn : 0 ≤ n ∧ n < 6) (hc : 0 ≤ c ∧ c ≤ 100) (hd : 2 ≤ d) (h : ∀ M', Fr (fun a j => a = 67 ∧ j = 47) M M' → Sh M' → rd M' 67 47 = (stF c s n.toNat).1 → Q (vI (stF c s n.toNat).2) M') : C G Y_X12_staying d 0 0 [vA 67, vI n, vI c] M Q := by
  refine C_X12_staying (B_X12_staying_0 (by omega) hS ?_)
  have key : ∀ m k : Nat, (k : Int) + m = n → ∀ Mk, Fr (fun a j => a = 67 ∧ j = 47) M Mk → Sh Mk → rd Mk 67 47 = (stF c s k).1 → X G Y_X12_staying d 0 0 5 [vA 67, vI n, vI c, vI (stF c s k).2, vI k] [] Mk Q := by
    intro m
    induction m with
    | zero =>
      intro k ek Mk fk hSk e3
      have : n.toNat = k := by omega
      rw [this] at h
      exact B_X12_staying_5 hd hSk ⟨⟨by omega, by omega⟩, ⟨by omega, by omega⟩, fun _ => h Mk fk hSk e3, fun q => by omega⟩
    | succ m ih =>
      intro k ek Mk fk hSk e3
      have hk := stF_ok (c := c) hs k
      have hdk := @drw_ok (stF c s k).1
      refine B_X12_staying_5 hd hSk ⟨⟨by omega, by omega⟩, ⟨by omega, by omega⟩, fun q => by omega, fun _ => ?_⟩
      refine T_X12_draw hSk e3 ⟨hk.1, hk.2.1⟩ ⟨by decide, by decide⟩ (by omega) (fun M3 e3' hS3 => ?_)
      show Sh M3 ∧ _
      have f3 : Fr (fun a j => a = 67 ∧ j = 47) M M3 := by rw [e3']; exact fk.wr ⟨rfl, rfl⟩
      have r3 : rd M3 67 47 = (stF c s (k + 1)).1 := by rw [e3', rd_wr, if_pos ⟨rfl, rfl⟩]; rfl
      refine ⟨hS3, ⟨by omega, by omega⟩, ⟨by omega, by omega⟩, fun v11 e11 => ?_⟩
      have := ih (k + 1) (by omega) M3 f3 hS3 r3
      have e : (stF c s (k + 1)).2 = v11 := by rw [e11]; rfl
      rw [e] at this; exact this
  exact key n.toNat 0 (by omega) M Fr.rf hS es
/-- an evening in the class -/
theorem T_X10_plays {w c z o s : Int} {ch : Int → Int → Int → Int → Int} {Rch : Int → Int → Int → Int → Prop} {I : MM → Prop} {E : EV} (hw : w = 59 ∨ w = 63) (hS : Sh M) (hC : CIn M r sm) (hi : I M) (hI : ∀ M M', I M → Fr (KWd w) M M' → I M') (hCh : tCh G r sm c ch Rch I) (hch : chR r ch)
    (hR : ∀ p l z o a b : Int, NS p l → RZ z o → z + o ≠ 0 → Rch p l z o → ch p l z o ≠ -1 → r (12 + 3 * ch p l z o) ≠ 1 → spt z (chn r sm 0 (ch p l z o) p l z o) a → spt o (chn r sm 1 (ch p l z o) p l z o) b → Rch (sb p (ch p l z o)) (ch p l z o) a b) (hR0 : Rch 0 (-1) z o)
    (hz : RZ z o) (es : rd M w 3 = s) (hs : 0 ≤ s ∧ s < 1000003) (hE : evF r sm ch 5 0 (-1) z o s = E) (hd : 8 ≤ d)
    (h : ∀ M', Fr (KWd w) M M' → Sh M' → CIn M' r sm → I M' → WDs M' w E.1 → rd M' w 8 = E.2.1 → rd M' w 9 = E.2.2.1 → rd M' w 3 = E.2.2.2 → Q vU M') : C G Y_X10_plays d 0 0 [vA w, vI c, vI z, vI o] M Q := by
  have hV := hC.1.2.1
  refine C_X10_plays (B_X10_plays_0 (by omega) hw hS fun M1 e1 hS1 M2 e2 hS2 M3 e3 hS3 => ?_)
  have i0 : ∀ x : Int, (if (0 : Int) ≠ 0 then (iShr x 8) else x) = x := fun x => if_neg (by decide)
  have i1 : ∀ x : Int, (if (1 : Int) ≠ 0 then (iShr x 8) else x) = iShr x 8 := fun x => if_pos (by decide)
  have kc : ∀ a j, KWd w a j → (a = 23 ∨ a = 24 ∨ a = 29 ∨ (a = 25 ∧ j = 6) ∨ 59 ≤ a ∧ a ≤ 66) := fun a j q => by unfold KWd KTd at q; omega
  have key : ∀ (n : Nat) (pre : List (Int × Int × Int)) (p l a b s : Int) (Mk : MM), n + pre.length = 5 → NS p l → RZ a b → (0 ≤ s ∧ s < 1000003) → Rch p l a b → Fr (KWd w) M Mk → Sh Mk → CIn Mk r sm → I Mk → WDs Mk w pre → rd Mk w 8 = 0 → rd Mk w 9 = 0 → rd Mk w 3 = s → pre ++ (evF r sm ch n p l a b s).1 = E.1 → (evF r sm ch n p l a b s).2 = E.2 →
      X G Y_X10_plays d 0 0 30 [vA w, vI c, vI z, vI o, vI p, vI l, vI a, vI b, vI pre.length, vU, vU] [] Mk Q := by
    intro n
    induction n with
    | zero =>
      intro pre p l a b s Mk hl hn hz hs hr fk hSk hCk hik hW h8 h9 h3 x1 x2
      obtain ⟨⟨a0, a1⟩, b0, b1⟩ := hz
      refine B_X10_plays_30 (r := r) (sm := sm) (by omega) hw hSk ⟨⟨by omega, by omega⟩, ⟨by omega, by omega⟩, fun _ => ?_, fun q => absurd (Or.inl (by omega)) q⟩
      rw [evF, List.append_nil] at x1
      have x2' : ((0 : Int), (0 : Int), s) = E.2 := x2
      exact h Mk fk hSk hCk hik (by rw [← x1]; exact hW) (by rw [h8, ← x2']) (by rw [h9, ← x2']) (by rw [h3, ← x2'])
    | succ n ih =>
      intro pre p l a b s Mk hl hn hz hs hr fk hSk hCk hik hW h8 h9 h3 x1 x2
      have hz' := hz
      obtain ⟨⟨a0, a1⟩, b0, b1⟩ := hz'
      rw [evF] at x1 x2
      refine B_X10_plays_30 (r := r) (sm := sm) (by omega) hw hSk ⟨⟨by omega, by omega⟩, ⟨by omega, by omega⟩, fun q => ?_, fun q => ?_⟩
      · have q' : a + b ≤ 0 := by omega
        rw [if_pos (Or.inl q')] at x1 x2
        have x2' : ((0 : Int), (0 : Int), s) = E.2 := x2
        rw [List.append_nil] at x1
        exact h Mk fk hSk hCk hik (by rw [← x1]; exact hW) (by rw [h8, ← x2']) (by rw [h9, ← x2']) (by rw [h3, ← x2'])
      · have hne : a + b ≠ 0 := by omega
        have hc := hch p l a b hn hz
        refine hCh Mk _ (d - 1) p l a b (by omega) hSk hCk hik hn hz hne hr (fun M16 f16 hC16 hS16 => ?_)
        show Sh M16 ∧ _
        have f16' : Fr (KWd w) Mk M16 := f16.mono (fun a j q => Or.inl q)
        have hi16 : I M16 := hI _ _ hik f16'
        have z16 : ∀ a j : Int, 59 ≤ a → rd M16 a j = rd Mk a j := fun a j q => f16.2.2 _ _ (by unfold KTd; omega)
        have hW16 : WDs M16 w pre := ⟨by rw [z16 _ _ (by omega)]; exact hW.1, fun i hi => by rw [z16 _ _ (by omega), z16 _ _ (by omega), z16 _ _ (by omega)]; exact hW.2 i hi⟩
        generalize hcc : ch p l a b = cc at *
        refine ⟨hS16, ⟨by omega, by omega⟩, fun q2 => ⟨by omega, by omega, fun M21 e21 hS21 M22 e22 hS22 M23 e23 hS23 M24 e24 hS24 => ?_⟩, fun q2 => ?_⟩
        · have hcs := canB_s hV hn.1 ⟨show 0 ≤ cc by omega, hc.2.1⟩ (hc.2.2 q2)
          have hns := NS_next hn ⟨show 0 ≤ cc by omega, hc.2.1⟩ hcs.2
          rw [if_neg (show ¬ (a + b ≤ 0 ∨ cc = -1) by omega)] at x1 x2
          have hW24 : WDs M24 w (pre ++ [(cc, a, b)]) := hW16.add e21 e22 e23 e24
          have f24 : Fr (fun a j => a = w + 1 ∨ a = w + 2 ∨ a = w + 3 ∨ (a = w ∧ j = 7)) M16 M24 := by
            rw [e24, e23, e22, e21]
            exact (((Fr.rf.wr (Or.inl rfl)).wr (Or.inr (Or.inl rfl))).wr (Or.inr (Or.inr (Or.inl rfl)))).wr (Or.inr (Or.inr (Or.inr ⟨rfl, rfl⟩)))
          have f24' : Fr (KWd w) Mk M24 := f16'.tr (f24.mono (fun a j q => by unfold KWd; omega))
          have hC24 : CIn M24 r sm := hC16.fr f24 (fun a j q => by omega)
          have z24 : ∀ j : Int, j ≠ 7 → rd M24 w j = rd Mk w j := fun j q => by rw [f24.2.2 _ _ (by omega), z16 _ _ (by omega)]
          have e4 : rd M24 4 cc = r (12 + 3 * cc) := (hC24.1.1.2.1 cc (by omega) hc.2.1).2.2
          have hsc := hV.2.2.1 cc (by omega) hc.2.1
          rw [e4]
          refine ⟨by omega, hc.2.1, ⟨by omega, by omega⟩, fun q3 => ?_, fun q3 M38 e38 hS38 M39 e39 hS39 => ?_⟩
          · rw [if_neg q3] at x1 x2
            refine ⟨hC24, ⟨hn, ⟨by omega, hc.2.1⟩, hcs.2, hz.1, hz.2⟩, fun r31 M30 e30 hS30 => ?_⟩
            obtain ⟨f30, hC30, er⟩ := e30
            have k0 : 0 ≤ (if 0 < a then chn r sm 0 cc p l a b else 0) ∧ (if 0 < a then chn r sm 0 cc p l a b else 0) ≤ 100 := by
              split
              · exact chn_ok
              · exact ⟨by decide, by decide⟩
            have k1 : 0 ≤ (if 0 < b then chn r sm 1 cc p l a b else 0) ∧ (if 0 < b then chn r sm 1 cc p l a b else 0) ≤ 100 := by
              split
              · exact chn_ok
              · exact ⟨by decide, by decide⟩
            have tk := tol_ok k0 k1 (@prcs_ok r sm cc p l a b hz.1 hz.2)
            have t0 : iAnd r31 127 = (if 0 < a then chn r sm 0 cc p l a b else 0) := by rw [er]; exact tk.1
            have t1 : iAnd (iShr r31 8) 127 = (if 0 < b then chn r sm 1 cc p l a b else 0) := by rw [er]; exact tk.2.1
            rw [i0, i1, t0, t1]
            have z30 : ∀ a j : Int, 59 ≤ a → rd M30 a j = rd M24 a j := fun a j q => f30.2.2 _ _ (by unfold KTd; omega)
            have he := evS_ok (r := r) (sm := sm) (c := cc) (p := p) (l := l) hz hs
            refine T_X10_staying hw hS30 (s := s) (by rw [z30 _ _ (by omega), z24 _ (by decide)]; exact h3) hs hz.1 k0 (by omega) (fun M33 f33 hS33 e33 => ?_)
            show Sh M33 ∧ _
            rw [stF_told a0] at e33 ⊢
            have s1 := stF_ok (c := chn r sm 0 cc p l a b) hs a.toNat
            refine ⟨hS33, ?_⟩
            refine T_X10_staying hw hS33 e33 ⟨s1.1, s1.2.1⟩ hz.2 k1 (by omega) (fun M35 f35 hS35 e35 => ?_)
            show Sh M35 ∧ _
            rw [stF_told b0] at e35 ⊢
            refine ⟨hS35, fun v37 e37 => ?_⟩
            have e37' : v37 = sb p cc := e37
            rw [e37']
            have fw : Fr (fun a j => a = w ∧ j = 3) M30 M35 := f33.tr f35
            have f35' : Fr (KWd w) M Mk := fk
            have fall : Fr (KWd w) Mk M35 := (f24'.tr (f30.mono (fun a j q => Or.inl q))).tr (fw.mono (fun a j q => by unfold KWd; omega))
            have zz : ∀ a j : Int, ¬ (a = w ∧ j = 3) → 59 ≤ a → rd M35 a j = rd M24 a j := fun a j q q' => by rw [fw.2.2 _ _ q, z30 _ _ q']
            have := ih (pre ++ [(cc, a, b)]) (sb p cc) cc (evS r sm cc p l a b s).1.2 (evS r sm cc p l a b s).2.2 (evS r sm cc p l a b s).2.1 M35 (by simp; omega) hns.1 he.2.2.2.2 ⟨he.2.2.1, he.2.2.2.1⟩
              (by have := hR p l a b (evS r sm cc p l a b s).1.2 (evS r sm cc p l a b s).2.2 hn hz hne hr (by rw [hcc]; exact q2) (by rw [hcc]; exact q3) (by rw [hcc]; exact he.1) (by rw [hcc]; exact he.2.1); rw [hcc] at this; exact this)
              (fk.tr fall) hS35 (hC30.fr fw (fun a j q => by omega)) (hI _ _ hik fall) ⟨by rw [zz _ _ (by omega) (by omega)]; exact hW24.1, fun i hi => by rw [zz _ _ (by omega) (by omega), zz _ _ (by omega) (by omega), zz _ _ (by omega) (by omega)]; exact hW24.2 i hi⟩ (by rw [zz _ _ (by omega) (by omega), z24 _ (by decide)]; exact h8) (by rw [zz _ _ (by omega) (by omega), z24 _ (by decide)]; exact h9) e35 (by rw [← x1]; simp) x2
            have el : (((pre ++ [(cc, a, b)]).length : Nat) : Int) = (pre.length : Int) + 1 := by simp
            rw [el] at this
            exact this
          · rw [if_pos q3] at x1 x2
            have x2' : (a, b, s) = E.2 := x2
            have f39 : Fr (fun a j => a = w ∧ (j = 8 ∨ j = 9)) M24 M39 := by rw [e39, e38]; exact (Fr.rf.wr ⟨rfl, Or.inl rfl⟩).wr ⟨rfl, Or.inr rfl⟩
            have zz : ∀ a j : Int, ¬ (a = w ∧ (j = 8 ∨ j = 9)) → rd M39 a j = rd M24 a j := fun a j q => f39.2.2 _ _ q
            have fall : Fr (KWd w) Mk M39 := f24'.tr (f39.mono (fun a j q => by unfold KWd; omega))
            refine h M39 (fk.tr fall) hS39 (hC24.fr f39 (fun a j q => by omega)) (hI _ _ hik fall) ?_ ?_ ?_ ?_
            · rw [← x1]
              exact ⟨by rw [zz _ _ (by omega)]; exact hW24.1, fun i hi => by rw [zz _ _ (by omega), zz _ _ (by omega), zz _ _ (by omega)]; exact hW24.2 i hi⟩
            · rw [e39, rd_wr, if_neg (by omega), e38, rd_wr, if_pos ⟨rfl, rfl⟩, ← x2']
            · rw [e39, rd_wr, if_pos ⟨rfl, rfl⟩, ← x2']
            · rw [zz _ _ (by omega), z24 _ (by decide), h3, ← x2']
        · rw [if_pos (Or.inr q2)] at x1 x2
          have x2' : ((0 : Int), (0 : Int), s) = E.2 := x2
          rw [List.append_nil] at x1
          exact h M16 (fk.tr f16') hS16 hC16 hi16 (by rw [← x1]; exact hW16) (by rw [z16 _ _ (by omega), h8, ← x2']) (by rw [z16 _ _ (by omega), h9, ← x2']) (by rw [z16 _ _ (by omega), h3, ← x2'])
  have f3 : Fr (fun a j => a = w ∧ (j = 7 ∨ j = 8 ∨ j = 9)) M M3 := by rw [e3, e2, e1]; exact ((Fr.rf.wr ⟨rfl, Or.inl rfl⟩).wr ⟨rfl, Or.inr (Or.inl rfl)⟩).wr ⟨rfl, Or.inr (Or.inr rfl)⟩
  have f3' : Fr (KWd w) M M3 := f3.mono (fun a j q => by unfold KWd; omega)
  exact key 5 [] 0 (-1) z o s M3 rfl NS0 hz hs hR0 f3' hS3 (hC.fr f3 (fun a j q => by omega)) (hI _ _ hi f3') ⟨by rw [e3, rd_wr, if_neg (by omega), e2, rd_wr, if_neg (by omega), e1, rd_wr, if_pos ⟨rfl, rfl⟩]; rfl, fun i hi => by simp at hi⟩ (by rw [e3, rd_wr, if_neg (by omega), e2, rd_wr, if_pos ⟨rfl, rfl⟩]) (by rw [e3, rd_wr, if_pos ⟨rfl, rfl⟩]) (by rw [f3.2.2 _ _ (by omega)]; exact es) (by rw [hE]; rfl) (by rw [hE])
end DW
