/-! ===== the class's table: what is settled in it ===== -/
theorem limF_pos (j : Nat) : 1 ≤ limF j ∧ limF j ≤ 14 := by
  unfold limF; split <;> decide
theorem bnd_lim {q : Int} (h0 : 0 ≤ q) (h1 : q ≤ 5) : bnd q < Bp (limF q.toNat).toNat := by
  have : q = 0 ∨ q = 1 ∨ q = 2 ∨ q = 3 ∨ q = 4 ∨ q = 5 := by omega
  rcases this with rfl | rfl | rfl | rfl | rfl | rfl <;> decide +kernel
theorem seg_in {p l z o : Int} (hz : 0 ≤ z ∧ z < 6) (ho : 0 ≤ o ∧ o < 6) : gt flL (nod p l) ≤ seg p l z o ∧ seg p l z o + limF (pop p).toNat ≤ gt flL (nod p l) + 36 * limF (pop p).toNat := by
  have hL := limF_pos (pop p).toNat
  unfold seg
  generalize limF (pop p).toNat = L at *
  have := mul_le (show 0 ≤ z * 6 + o by omega) (show z * 6 + o ≤ 35 by omega) (show 0 ≤ L by omega) (Int.le_refl L)
  omega
theorem seg_apart {p l z o p' l' z' o' : Int} (h : NS p l) (hz : 0 ≤ z ∧ z < 6) (ho : 0 ≤ o ∧ o < 6) (h' : NS p' l') (hz' : 0 ≤ z' ∧ z' < 6) (ho' : 0 ≤ o' ∧ o' < 6) (hne : ¬ (p = p' ∧ l = l' ∧ z = z' ∧ o = o')) :
    seg p l z o + limF (pop p).toNat ≤ seg p' l' z' o' ∨ seg p' l' z' o' + limF (pop p').toNat ≤ seg p l z o := by
  by_cases q : p = p' ∧ l = l'
  · obtain ⟨q1, q2⟩ := q
    subst q1 q2
    have hL := limF_pos (pop p).toNat
    unfold seg
    generalize limF (pop p).toNat = L at *
    by_cases w : z * 6 + o < z' * 6 + o'
    · left
      have := Int.mul_le_mul_of_nonneg_right (show z * 6 + o + 1 ≤ z' * 6 + o' by omega) (show 0 ≤ L by omega)
      rw [Int.add_mul (z * 6 + o) 1 L, Int.one_mul] at this
      omega
    · right
      have := Int.mul_le_mul_of_nonneg_right (show z' * 6 + o' + 1 ≤ z * 6 + o by omega) (show 0 ≤ L by omega)
      rw [Int.add_mul (z' * 6 + o') 1 L, Int.one_mul] at this
      omega
  · have a := seg_in (p := p) (l := l) hz ho
    have b := seg_in (p := p') (l := l') hz' ho'
    rcases limb_apart h h' q with w | w
    · left; omega
    · right; omega
theorem slo_inj {p l z o p' l' z' o' : Int} (h : NS p l) (hz : 0 ≤ z ∧ z < 6) (ho : 0 ≤ o ∧ o < 6) (h' : NS p' l') (hz' : 0 ≤ z' ∧ z' < 6) (ho' : 0 ≤ o' ∧ o' < 6) (e : slo p l z o = slo p' l' z' o') : p = p' ∧ l = l' ∧ z = z' ∧ o = o' := by
  have a := node_ok h
  have b := node_ok h'
  unfold slo at e
  have e1 : gt fqL (nod p l) = gt fqL (nod p' l') := by omega
  refine ⟨a.2.2.2.1.symm.trans ((congrArg (fun x => gt ivA (x / 36)) e1).trans b.2.2.2.1), a.2.2.2.2.1.symm.trans ((congrArg (fun x => gt ivB (x / 36)) e1).trans b.2.2.2.2.1), by omega, by omega⟩
def RZ (z o : Int) : Prop := (0 ≤ z ∧ z < 6) ∧ (0 ≤ o ∧ o < 6)
/-- who can be left of n by a chance c -/
def spt (n c a : Int) : Prop := 0 ≤ a ∧ a ≤ n ∧ (c = 100 → a = n) ∧ (c = 0 → a = 0)
theorem stv_spt {n c a : Int} (n0 : 0 ≤ n) (n1 : n < 6) (a0 : 0 ≤ a) (a1 : a ≤ n) (h : stv n c a ≠ 0) : spt n c a := by
  refine ⟨a0, a1, fun e => ?_, fun e => ?_⟩
  · subst e
    exact fin2 (P := fun n a => a ≤ n → stv n 100 a ≠ 0 → a = n) 6 6 (by decide +kernel) n0 n1 a0 (by omega) a1 h
  · subst e
    exact fin2 (P := fun n a => a ≤ n → stv n 0 a ≠ 0 → a = 0) 6 6 (by decide +kernel) n0 n1 a0 (by omega) a1 h
theorem spt_told {z c a : Int} : spt z (if 0 < z then c else 0) a ↔ spt z c a := by
  unfold spt
  by_cases q : 0 < z
  · rw [if_pos q]
  · rw [if_neg q]
    constructor
    · intro h; exact ⟨h.1, h.2.1, fun _ => by omega, fun _ => by omega⟩
    · intro h; exact ⟨h.1, h.2.1, fun _ => by omega, fun _ => by omega⟩
theorem expc_told {U : Int → Int → Int} {z o c0 c1 : Int} (hz : 0 ≤ z) (ho : 0 ≤ o) : expc U z o (if 0 < z then c0 else 0) (if 0 < o then c1 else 0) = expc U z o c0 c1 := by
  have e0 : ∀ n c a : Int, 0 ≤ n → stv n (if 0 < n then c else 0) a = stv n c a := fun n c a n0 => by
    by_cases q : 0 < n
    · rw [if_pos q]
    · have : n = 0 := by omega
      subst this; rfl
  unfold expc
  refine sumTo_congr (fun a _ _ => ?_)
  rw [e0 z c0 a hz]
  congr 1
  refine sumTo_congr (fun b _ _ => ?_)
  rw [e0 o c1 b ho]
theorem Wf_ok {r : Int → Int} {sm : Int → LSm} {g : Int} {can : CAN} (hc : canOk can) (hV : RS r) (hg : 0 ≤ g) {s p l z o : Int} (hp : 0 ≤ p ∧ p < 32) (hz : 0 ≤ z ∧ z < 6) (ho : 0 ≤ o ∧ o < 6) (h1 : can p l z o s = true) :
    0 ≤ Wf r sm g (fun p l z o => (VV r sm g can p l z o).1) s p l z o ∧ Wf r sm g (fun p l z o => (VV r sm g can p l z o).1) s p l z o ≤ bnd (pop p) := by
  have hq := pop_le hp.1 hp.2
  have hs := hc p l z o s h1
  have hp5 := pop5 hp ⟨hs.1, hs.2.1⟩ hs.2.2
  have hps := pop_sb hp.1 hp.2 hs.1 hs.2.1 hs.2.2
  have hsl := sb_lt hp.1 hp.2 hs.1 hs.2.1
  have hb := @brg_ok r sm g s p l z o hV hg ⟨hs.1, hs.2.1⟩ hz ho
  have he := expc_ok (U := fun a b => (VV r sm g can (sb p s) s a b).1) (z := z) (o := o) (c0 := chn r sm 0 s p l z o) (c1 := chn r sm 1 s p l z o) (B := bnd (pop p + 1)) hz ho chn_ok chn_ok (fun a b a0 a1 b0 b1 => by
    rw [← hps]; exact VV_ok hc hV hg _ (sb p s) s a b hsl.1 hsl.2 rfl a0 (by omega) b0 (by omega))
  have hsc := sc_s hq.1 (show pop p < 5 by omega)
  have hsp := sc_pos (pop p)
  have m1 : 0 ≤ brg r sm g s p l z o * sc (pop p) := Int.mul_nonneg hb.1 (by omega)
  have m2 : brg r sm g s p l z o * sc (pop p) ≤ 58500 * sc (pop p) := Int.mul_le_mul_of_nonneg_right hb.2 (by omega)
  have e1 : 100000000000000000000 * bnd (pop p + 1) = ((5 - (pop p + 1)) * 58500 + 1) * sc (pop p) := by unfold bnd; rw [hsc]; grind
  have e2 : bnd (pop p) = 58500 * sc (pop p) + ((5 - (pop p + 1)) * 58500 + 1) * sc (pop p) := by unfold bnd; grind
  have e3 : 0 ≤ ((5 - (pop p + 1)) * 58500 + 1) * sc (pop p) := Int.mul_nonneg (by omega) (by omega)
  unfold Wf
  dsimp only
  split <;> omega
/-- a place is marked in this turn -/
def tMk (M : MM) (t p l z o : Int) : Prop := rd M (t + 2) (slo p l z o) / 8 = rd M t 9
def tSg (M : MM) (t : Int) (V : Int × Int) (p l z o : Int) : Prop := nrm (rd M (t + 1)) (seg p l z o) (limF (pop p).toNat).toNat ∧ vl (rd M (t + 1)) (seg p l z o) (limF (pop p).toNat).toNat = V.1 ∧ rd M (t + 2) (slo p l z o) = 8 * rd M t 9 + V.2 + 1
def tB0 (M : MM) (t : Int) : Prop := 1 ≤ rd M t 9 ∧ rd M t 9 < 100000000 ∧ ∀ i : Int, 0 ≤ i → i < 2916 → 0 ≤ rd M (t + 2) i ∧ rd M (t + 2) i < 8 * rd M t 9 + 8
def tIn (r : Int → Int) (sm : Int → LSm) (g : Int) (can : CAN) (M : MM) (t : Int) : Prop :=
  tB0 M t ∧ (∀ p l z o : Int, NS p l → RZ z o → tMk M t p l z o → tSg M t (VV r sm g can p l z o) p l z o) ∧
  ∀ p l z o s a b : Int, NS p l → RZ z o → z + o ≠ 0 → tMk M t p l z o → can p l z o s = true → r (12 + 3 * s) ≠ 1 → (g = 6 ∨ canB r (sb p s) ≠ 0) → spt z (chn r sm 0 s p l z o) a → spt o (chn r sm 1 s p l z o) b → tMk M t (sb p s) s a b
theorem tIn.eq {r : Int → Int} {sm : Int → LSm} {g : Int} {can : CAN} {M M' : MM} {t : Int} (h : tIn r sm g can M t) (e1 : rd M' (t + 1) = rd M (t + 1)) (e2 : rd M' (t + 2) = rd M (t + 2)) (e9 : rd M' t 9 = rd M t 9) : tIn r sm g can M' t := by
  unfold tIn tB0 tMk tSg at h ⊢
  rw [e1, e2, e9]; exact h
def KZ (t a j : Int) : Prop := KTd a j ∨ KX t a j ∨ a = t + 1 ∨ a = t + 2
def tSt (r : Int → Int) (sm : Int → LSm) (t g c : Int) (can : CAN) (I : MM → Prop) (M : MM) : Prop := Sh M ∧ CIn M r sm ∧ (rd M t 11 = g ∧ rd M t 10 = c ∧ I M) ∧ tIn r sm g can M t
def tLw (t q : Int) (M M' : MM) : Prop := ∀ p l z o : Int, NS p l → RZ z o → pop p < q → (∀ i : Int, 0 ≤ i → i < limF (pop p).toNat → rd M' (t + 1) (seg p l z o + i) = rd M (t + 1) (seg p l z o + i)) ∧ rd M' (t + 2) (slo p l z o) = rd M (t + 2) (slo p l z o)
def tMo (t : Int) (M M' : MM) : Prop := ∀ p l z o : Int, NS p l → RZ z o → tMk M t p l z o → tMk M' t p l z o
def tSp (r : Int → Int) (sm : Int → LSm) (t g c : Int) (can : CAN) (I : MM → Prop) (q : Int) (M M' : MM) : Prop := Fr (KZ t) M M' ∧ tSt r sm t g c can I M' ∧ tLw t q M M' ∧ tMo t M M'
theorem tSp.rf {r : Int → Int} {sm : Int → LSm} {t g c : Int} {can : CAN} {I : MM → Prop} {q : Int} {M : MM} (h : tSt r sm t g c can I M) : tSp r sm t g c can I q M M := ⟨Fr.rf, h, fun _ _ _ _ _ _ _ => ⟨fun _ _ _ => rfl, rfl⟩, fun _ _ _ _ _ _ w => w⟩
theorem tSp.tr {r : Int → Int} {sm : Int → LSm} {t g c : Int} {can : CAN} {I : MM → Prop} {q : Int} {M M1 M2 : MM} (h : tSp r sm t g c can I q M M1) (h2 : tSp r sm t g c can I q M1 M2) : tSp r sm t g c can I q M M2 :=
  ⟨h.1.tr h2.1, h2.2.1, fun p l z o a b w => ⟨fun i i0 i1 => ((h2.2.2.1 p l z o a b w).1 i i0 i1).trans ((h.2.2.1 p l z o a b w).1 i i0 i1), (h2.2.2.1 p l z o a b w).2.trans (h.2.2.1 p l z o a b w).2⟩, fun p l z o a b w => h2.2.2.2 p l z o a b (h.2.2.2 p l z o a b w)⟩
theorem tSp.lo {r : Int → Int} {sm : Int → LSm} {t g c : Int} {can : CAN} {I : MM → Prop} {q q' : Int} {M M1 : MM} (h : tSp r sm t g c can I q M M1) (hq : q' ≤ q) : tSp r sm t g c can I q' M M1 := ⟨h.1, h.2.1, fun p l z o a b w => h.2.2.1 p l z o a b (by omega), h.2.2.2⟩
/-- who chooses in the class -/
def tCh (G : GG) (r : Int → Int) (sm : Int → LSm) (c : Int) (chf : Int → Int → Int → Int → Int) (Rch : Int → Int → Int → Int → Prop) (I : MM → Prop) : Prop :=
  ∀ (M : MM) (Q : PV → MM → Prop) (d : Nat) (p l z o : Int), 7 ≤ d → Sh M → CIn M r sm → I M → NS p l → RZ z o → z + o ≠ 0 → Rch p l z o → (∀ M', Fr KTd M M' → CIn M' r sm → Sh M' → Q (vI (chf p l z o)) M') → C G Y_X3_choose d 0 0 [vA 30, vI c, vI p, vI l, vI z, vI o] M Q
def tCx (G : GG) (r : Int → Int) (sm : Int → LSm) (t g c : Int) (can : CAN) (Rch : Int → Int → Int → Int → Prop) (I : MM → Prop) : Prop :=
  (t = 32 ∨ t = 44) ∧ (0 ≤ g ∧ g ≤ 10) ∧ (0 ≤ c ∧ c ≤ 4) ∧ canR r can ∧ (∀ p l z o s : Int, 0 ≤ p → p < 32 → can p l z o s = true → bt (canB r p) s = 1) ∧ (∀ M M', I M → Fr (KZ t) M M' → I M') ∧
  (∀ p l z o s a b : Int, NS p l → RZ z o → z + o ≠ 0 → Rch p l z o → can p l z o s = true → r (12 + 3 * s) ≠ 1 → spt z (chn r sm 0 s p l z o) a → spt o (chn r sm 1 s p l z o) b → Rch (sb p s) s a b) ∧
  (((tG t = -1 ∨ c = 4) ∧ can = cBs r) ∨ (tG t = 30 ∧ c ≠ 4 ∧ ∃ chf, can = cF chf r ∧ (∀ p l z o : Int, NS p l → RZ z o → -1 ≤ chf p l z o ∧ chf p l z o < 5 ∧ (chf p l z o ≠ -1 → bt (canB r p) (chf p l z o) = 1)) ∧ tCh G r sm c chf Rch I))
section ZT
variable {G : GG} {r : Int → Int} {sm : Int → LSm} {t g c : Int} {can : CAN} {Rch : Int → Int → Int → Int → Prop} {I : MM → Prop}
/-- what touches neither values nor marks -/
theorem tSp.small {q : Int} {M M' : MM} {K : Int → Int → Prop} (hx : tCx G r sm t g c can Rch I) (h : tSt r sm t g c can I M) (f : Fr K M M') (hK : ∀ a j, K a j → KTd a j ∨ KX t a j) (hS : Sh M') (hC : CIn M' r sm) : tSp r sm t g c can I q M M' := by
  have ht := hx.1
  have f' : Fr (KZ t) M M' := f.mono (fun a j w => by rcases hK a j w with y | y; exact Or.inl y; exact Or.inr (Or.inl y))
  have e1 : rd M' (t + 1) = rd M (t + 1) := funext fun j => f.2.2 _ _ (fun w => by have := hK _ _ w; unfold KTd KX at this; omega)
  have e2 : rd M' (t + 2) = rd M (t + 2) := funext fun j => f.2.2 _ _ (fun w => by have := hK _ _ w; unfold KTd KX at this; omega)
  have e9 : ∀ j, rd M' t j = rd M t j := fun j => f.2.2 _ _ (fun w => by have := hK _ _ w; unfold KTd KX at this; omega)
  refine ⟨f', ⟨hS, hC, ⟨by rw [e9]; exact h.2.2.1.1, by rw [e9]; exact h.2.2.1.2.1, hx.2.2.2.2.2.1 M M' h.2.2.1.2.2 f'⟩, h.2.2.2.eq e1 e2 (e9 9)⟩, fun p l z o _ _ _ => ⟨fun i _ _ => by rw [e1], by rw [e2]⟩, fun p l z o _ _ w => ?_⟩
  unfold tMk at w ⊢
  rw [e2, e9]; exact w
/-- the place's own value is written while it is not marked -/
theorem tSp.own {M M1 M2 : MM} {p l z o : Int} (hx : tCx G r sm t g c can Rch I) (h : tSp r sm t g c can I (pop p) M M1) (hn : NS p l) (hzo : RZ z o) (hm : ¬ tMk M1 t p l z o) (hc : Ch M1 M2 (t + 1) (seg p l z o) (limF (pop p).toNat).toNat) :
    tSp r sm t g c can I (pop p) M M2 ∧ ¬ tMk M2 t p l z o := by
  have ht := hx.1
  have hL := limF_pos (pop p).toNat
  have hS2 : Sh M2 := h.2.1.1.ch hc (by rw [(sOt_1 ht h.2.1.1).2.2]; decide)
  have f : Fr (KZ t) M1 M2 := Fr.ch hc (fun j _ _ => by unfold KZ; omega)
  have e2 : rd M2 (t + 2) = rd M1 (t + 2) := funext fun j => hc.2.2 _ _ (by omega)
  have e9 : ∀ j, rd M2 t j = rd M1 t j := fun j => hc.2.2 _ _ (by omega)
  have hm2 : ∀ p' l' z' o', tMk M2 t p' l' z' o' ↔ tMk M1 t p' l' z' o' := fun p' l' z' o' => by unfold tMk; rw [e2, e9]
  have keep : ∀ p' l' z' o' : Int, NS p' l' → RZ z' o' → ¬ (p = p' ∧ l = l' ∧ z = z' ∧ o = o') → ∀ i : Int, 0 ≤ i → i < limF (pop p').toNat → rd M2 (t + 1) (seg p' l' z' o' + i) = rd M1 (t + 1) (seg p' l' z' o' + i) := fun p' l' z' o' hn' hz' hne i i0 i1 => by
    have := seg_apart hn hzo.1 hzo.2 hn' hz'.1 hz'.2 hne
    exact hc.2.2 _ _ (by omega)
  have hC2 : CIn M2 r sm := h.2.1.2.1.fr (K := fun a j => a = t + 1) (Fr.ch hc (fun j _ _ => rfl)) (fun a j w => by omega)
  have hi := h.2.1.2.2.2
  refine ⟨⟨h.1.tr f, ⟨hS2, hC2, ⟨by rw [e9]; exact h.2.1.2.2.1.1, by rw [e9]; exact h.2.1.2.2.1.2.1, hx.2.2.2.2.2.1 M1 M2 h.2.1.2.2.1.2.2 f⟩, ?_, fun p' l' z' o' hn' hz' w => ?_, fun p' l' z' o' s a b h1 h2 h3 h4 h5 h6 h7 h8 h9 => ?_⟩, fun p' l' z' o' hn' hz' w => ⟨fun i i0 i1 => ?_, ?_⟩, fun p' l' z' o' hn' hz' w => ?_⟩, fun w => hm ((hm2 _ _ _ _).mp w)⟩
  · unfold tB0; rw [e2, e9]; exact hi.1
  · have w1 := (hm2 _ _ _ _).mp w
    have hs := hi.2.1 p' l' z' o' hn' hz' w1
    have hne : ¬ (p = p' ∧ l = l' ∧ z = z' ∧ o = o') := fun y => hm (by rw [y.1, y.2.1, y.2.2.1, y.2.2.2]; exact w1)
    have hL' := limF_pos (pop p').toNat
    refine ⟨fun i i0 i1 => ?_, ?_, by rw [e2, e9]; exact hs.2.2⟩
    · rw [keep p' l' z' o' hn' hz' hne i i0 (by omega)]; exact hs.1 i i0 i1
    · rw [vl_congr (g := rd M1 (t + 1)) (b := seg p' l' z' o') (fun i i0 i1 => keep p' l' z' o' hn' hz' hne i i0 (by omega))]; exact hs.2.1
  · exact (hm2 _ _ _ _).mpr (hi.2.2 p' l' z' o' s a b h1 h2 h3 ((hm2 _ _ _ _).mp h4) h5 h6 h7 h8 h9)
  · rw [keep p' l' z' o' hn' hz' (fun y => by rw [y.1] at w; omega) i i0 i1]; exact (h.2.2.1 p' l' z' o' hn' hz' w).1 i i0 i1
  · rw [e2]; exact (h.2.2.1 p' l' z' o' hn' hz' w).2
  · exact (hm2 _ _ _ _).mpr (h.2.2.2 p' l' z' o' hn' hz' w)
/-- 'settle' of places with n scenes left -/
def tSet (G : GG) (r : Int → Int) (sm : Int → LSm) (t g c : Int) (can : CAN) (Rch : Int → Int → Int → Int → Prop) (I : MM → Prop) (n : Nat) : Prop :=
  ∀ (M : MM) (Q : PV → MM → Prop) (d : Nat) (p l z o : Int), NS p l → RZ z o → (5 - pop p).toNat = n → 3 * n + 9 ≤ d → tSt r sm t g c can I M → Rch p l z o → (g = 6 → l = -1 ∨ r (12 + 3 * l) = 0) → (∀ M', tSp r sm t g c can I (pop p) M M' → tMk M' t p l z o → Q vU M') → C G Y_X9_settle d 0 0 [vA t, vI p, vI l, vI z, vI o, vI (pop p)] M Q
theorem T_X9_visit {n : Nat} {M : MM} {Q : PV → MM → Prop} {d : Nat} {P s z o w c0 c1 : Int} (hx : tCx G r sm t g c can Rch I) (hSet : tSet G r sm t g c can Rch I n) (hP : NS P s) (hzo : RZ z o) (hn : (5 - pop P).toNat = n) (hd : 3 * n + 10 ≤ d) (hM : tSt r sm t g c can I M)
    (ew0 : iAnd w 127 = c0) (ew1 : iAnd (iShr w 8) 127 = c1) (hc0 : 0 ≤ c0 ∧ c0 ≤ 100) (hc1 : 0 ≤ c1 ∧ c1 ≤ 100) (hR : ∀ a b : Int, spt z c0 a → spt o c1 b → Rch P s a b) (hg : g = 6 → s = -1 ∨ r (12 + 3 * s) = 0)
    (h : ∀ M', tSp r sm t g c can I (pop P) M M' → (∀ a b : Int, spt z c0 a → spt o c1 b → tMk M' t P s a b) → Q vU M') : C G Y_X9_visit d 0 0 [vA t, vI P, vI s, vI z, vI o, vI w] M Q := by
  have ht := hx.1
  have hz := hzo.1
  have ho := hzo.2
  have i0 : (if (0 : Int) ≠ 0 then (iShr w 8) else w) = w := if_neg (by decide)
  have i1 : (if (1 : Int) ≠ 0 then (iShr w 8) else w) = iShr w 8 := if_pos (by decide)
  refine C_X9_visit (B_X9_visit_0 (by omega) ht hM.1 ?_)
  rw [i0, i1, ew0, ew1]
  refine ⟨hP.1.1, hP.1.2, fun v3 e3 v4 e4 v5 e5 => ?_⟩
  subst e3 e4 e5
  refine ⟨⟨by omega, by omega⟩, fun v11 e11 => ?_⟩
  have hiA : 0 ≤ (if v4 ≠ 0 then z else 0) ∧ (if v4 ≠ 0 then z else 0) < 6 ∧ v11 ≤ (if v4 ≠ 0 then z else 0) ∧ 0 ≤ v11 ∧ ∀ a, spt z v4 a ↔ (v11 ≤ a ∧ a ≤ (if v4 ≠ 0 then z else 0)) := by
    rw [e11]
    unfold spt
    by_cases y : v4 = 0
    · rw [if_neg (show ¬ v4 ≠ 0 by omega), if_pos (show v4 ≠ 100 by omega)]
      exact ⟨by omega, by omega, by omega, by omega, fun a => ⟨fun q => by omega, fun q => by omega⟩⟩
    · rw [if_pos y]
      by_cases y2 : v4 = 100
      · rw [if_neg (show ¬ v4 ≠ 100 by omega)]
        exact ⟨by omega, by omega, by omega, by omega, fun a => ⟨fun q => by omega, fun q => by omega⟩⟩
      · rw [if_pos y2]
        exact ⟨by omega, by omega, by omega, by omega, fun a => ⟨fun q => by omega, fun q => by omega⟩⟩
  have hiB : 0 ≤ (if v5 ≠ 0 then o else 0) ∧ (if v5 ≠ 0 then o else 0) < 6 ∧ (if v5 ≠ 100 then 0 else o) ≤ (if v5 ≠ 0 then o else 0) ∧ 0 ≤ (if v5 ≠ 100 then 0 else o) ∧ ∀ a, spt o v5 a ↔ ((if v5 ≠ 100 then 0 else o) ≤ a ∧ a ≤ (if v5 ≠ 0 then o else 0)) := by
    unfold spt
    by_cases y : v5 = 0
    · rw [if_neg (show ¬ v5 ≠ 0 by omega), if_pos (show v5 ≠ 100 by omega)]
      exact ⟨by omega, by omega, by omega, by omega, fun a => ⟨fun q => by omega, fun q => by omega⟩⟩
    · rw [if_pos y]
      by_cases y2 : v5 = 100
      · rw [if_neg (show ¬ v5 ≠ 100 by omega)]
        exact ⟨by omega, by omega, by omega, by omega, fun a => ⟨fun q => by omega, fun q => by omega⟩⟩
      · rw [if_pos y2]
        exact ⟨by omega, by omega, by omega, by omega, fun a => ⟨fun q => by omega, fun q => by omega⟩⟩
  clear e11
  generalize hAe : (if v4 ≠ 0 then z else 0) = hA at *
  generalize hBe : (if v5 ≠ 0 then o else 0) = hB at *
  generalize lBe : (if v5 ≠ 100 then 0 else o) = lB at *
  have outer : ∀ (m : Nat) (a : Int), a + m = hA + 1 → v11 ≤ a → ∀ Ma, tSp r sm t g c can I (pop P) M Ma → (∀ a' b' : Int, spt z v4 a' → spt o v5 b' → a' < a → tMk Ma t P s a' b') → X G Y_X9_visit d 0 0 36 [vA t, vI P, vI s, vI z, vI o, vI w, vI (pop P), vI v4, vI v5, vI a, vU] [] Ma Q := by
    intro m
    induction m with
    | zero =>
      intro a ea la Ma sa ka
      refine B_X9_visit_36 (by omega) ht sa.2.1.1 ?_
      rw [hAe]
      exact ⟨⟨by omega, by omega⟩, ⟨by omega, by omega⟩, ⟨by omega, by omega⟩, fun _ => h Ma sa (fun a' b' q1 q2 => ka a' b' q1 q2 (by have := (hiA.2.2.2.2 a').mp q1; omega)), fun y => by omega⟩
    | succ m ih =>
      intro a ea la Ma sa ka
      refine B_X9_visit_36 (by omega) ht sa.2.1.1 ?_
      rw [hAe]
      refine ⟨⟨by omega, by omega⟩, ⟨by omega, by omega⟩, ⟨by omega, by omega⟩, fun y => by omega, fun _ => ⟨⟨by omega, by omega⟩, fun v13 e13 => ?_⟩⟩
      rw [lBe] at e13
      have inner : ∀ (m' : Nat) (b : Int), b + m' = hB + 1 → lB ≤ b → ∀ Mb, tSp r sm t g c can I (pop P) M Mb → (∀ a' b' : Int, spt z v4 a' → spt o v5 b' → a' < a → tMk Mb t P s a' b') → (∀ b' : Int, spt o v5 b' → b' < b → tMk Mb t P s a b') → X G Y_X9_visit d 0 0 66 [vA t, vI P, vI s, vI z, vI o, vI w, vI (pop P), vI v4, vI v5, vI a, vI b] [] Mb Q := by
        intro m'
        induction m' with
        | zero =>
          intro b eb lb Mb sb' kb kb2
          refine B_X9_visit_66 (by omega) ht sb'.2.1.1 ?_
          rw [hBe]
          refine ⟨⟨by omega, by omega⟩, ⟨by omega, by omega⟩, ⟨by omega, by omega⟩, fun _ => ih (a + 1) (by omega) (by omega) Mb sb' (fun a' b' q1 q2 q3 => ?_), fun y => by omega⟩
          by_cases y : a' < a
          · exact kb a' b' q1 q2 y
          · have : a' = a := by omega
            rw [this]
            exact kb2 b' q2 (by have := (hiB.2.2.2.2 b').mp q2; omega)
        | succ m' ihb =>
          intro b eb lb Mb sb' kb kb2
          have ha : spt z v4 a := (hiA.2.2.2.2 a).mpr ⟨la, by omega⟩
          have hb : spt o v5 b := (hiB.2.2.2.2 b).mpr ⟨lb, by omega⟩
          have hab : RZ a b := ⟨⟨ha.1, by have := ha.2.1; omega⟩, ⟨hb.1, by have := hb.2.1; omega⟩⟩
          refine B_X9_visit_66 (by omega) ht sb'.2.1.1 ?_
          rw [hBe]
          refine ⟨⟨by omega, by omega⟩, ⟨by omega, by omega⟩, ⟨by omega, by omega⟩, fun y => by omega, fun _ => ?_⟩
          refine hSet Mb _ (d - 1) P s a b hP hab hn (by omega) sb'.2.1 (hR a b ha hb) hg (fun M8 s8 k8 => ?_)
          show Sh M8 ∧ _
          refine ⟨s8.2.1.1, ihb (b + 1) (by omega) (by omega) M8 (sb'.tr s8) (fun a' b' q1 q2 q3 => ?_) (fun b' q1 q2 => ?_)⟩
          · exact s8.2.2.2 P s a' b' hP ⟨⟨q1.1, by have := q1.2.1; omega⟩, ⟨q2.1, by have := q2.2.1; omega⟩⟩ (kb a' b' q1 q2 q3)
          · by_cases y : b' < b
            · exact s8.2.2.2 P s a b' hP ⟨hab.1, ⟨q1.1, by have := q1.2.1; omega⟩⟩ (kb2 b' q1 y)
            · have : b' = b := by omega
              rw [this]; exact k8
      rw [e13]
      exact inner (hB + 1 - lB).toNat lB (by omega) (Int.le_refl _) Ma sa ka (fun b' q1 q2 => by have := (hiB.2.2.2.2 b').mp q1; omega)
  exact outer (hA + 1 - v11).toNat v11 (by omega) (Int.le_refl _) M (tSp.rf hM) (fun a' b' q1 q2 q3 => by have := (hiA.2.2.2.2 a').mp q1; omega)
end ZT
