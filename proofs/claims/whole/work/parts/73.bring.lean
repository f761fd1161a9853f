/-! ===== what a scene brings, with all behind it ===== -/
theorem sumTo_z {f : Int → Int} : ∀ {n : Nat}, (∀ i : Int, 0 ≤ i → i < n → f i = 0) → sumTo f n = 0
  | 0, _ => rfl
  | n + 1, h => by rw [sumTo, sumTo_z (fun i i0 i1 => h i i0 (by omega)), h n (by omega) (by omega)]; rfl
theorem expc_z {U : Int → Int → Int} {z o c0 c1 : Int} (hz : 0 ≤ z) (ho : 0 ≤ o) (h : ∀ a b : Int, 0 ≤ a → a ≤ z → 0 ≤ b → b ≤ o → U a b = 0) : expc U z o c0 c1 = 0 := by
  unfold expc
  refine sumTo_z (fun a a0 a1 => ?_)
  rw [sumTo_z (fun b b0 b1 => by rw [h a b a0 (by omega) b0 (by omega), Int.mul_zero]), Int.mul_zero]
section ZB
variable {G : GG} {r : Int → Int} {sm : Int → LSm} {t g c : Int} {can : CAN} {Rch : Int → Int → Int → Int → Prop} {I : MM → Prop}
theorem T_X9_bring {n : Nat} {M : MM} {Q : PV → MM → Prop} {d : Nat} {p l s z o : Int} (hx : tCx G r sm t g c can Rch I) (hSet : tSet G r sm t g c can Rch I n) (hn : NS p l) (hzo : RZ z o) (hne : z + o ≠ 0) (hcs : can p l z o s = true) (hnn : (5 - (pop p + 1)).toNat = n) (hd : 3 * n + 11 ≤ d) (hM : tSt r sm t g c can I M) (hR : Rch p l z o)
    (h : ∀ M', tSp r sm t g c can I (pop p + 1) M M' → nrm (rd M' (t + 3)) 0 14 → vl (rd M' (t + 3)) 0 14 = Wf r sm g (fun p l z o => (VV r sm g can p l z o).1) s p l z o → (r (12 + 3 * s) ≠ 1 → (g = 6 ∨ canB r (sb p s) ≠ 0) → ∀ a b : Int, spt z (chn r sm 0 s p l z o) a → spt o (chn r sm 1 s p l z o) b → tMk M' t (sb p s) s a b) → Q vU M') :
    C G Y_X9_bring d 0 0 [vA t, vI p, vI l, vI s, vI z, vI o] M Q := by
  have ht := hx.1
  have hg := hx.2.1
  have hcan := hx.2.2.2.1
  have hCB := hx.2.2.2.2.1
  have hV := hM.2.1.1.2.1
  have n0 := hV.1
  have n5 := hV.2.1
  have hs := hcan.1 p l z o s hcs
  have hsr := hcan.2 p l z o s hcs
  obtain ⟨hNS', hpop⟩ := NS_next hn ⟨hs.1, hs.2.1⟩ hs.2.2
  have hq := pop_le hn.1.1 hn.1.2
  have hq' := pop_le hNS'.1.1 hNS'.1.2
  have hz := hzo.1
  have ho := hzo.2
  have k0 : 0 ≤ (if 0 < z then chn r sm 0 s p l z o else 0) ∧ (if 0 < z then chn r sm 0 s p l z o else 0) ≤ 100 := by
    split
    · exact chn_ok
    · exact ⟨by decide, by decide⟩
  have k1 : 0 ≤ (if 0 < o then chn r sm 1 s p l z o else 0) ∧ (if 0 < o then chn r sm 1 s p l z o else 0) ≤ 100 := by
    split
    · exact chn_ok
    · exact ⟨by decide, by decide⟩
  have tk := tol_ok k0 k1 (@prcs_ok r sm s p l z o hz ho)
  have hW := Wf_ok (sm := sm) hcan.1 hV hg.1 hn.1 hz ho hcs
  have hbl := bnd_lt hq.1 hq.2
  have hbr := @brg_ok r sm g s p l z o hV hg.1 ⟨hs.1, hs.2.1⟩ hz ho
  have fin : ∀ (M5 : MM) (x8 : Int), tSp r sm t g c can I (pop p + 1) M M5 → (x8 = 0 ∨ x8 = 1) → (r (12 + 3 * s) ≠ 1 → (g = 6 ∨ canB r (sb p s) ≠ 0) → ∀ a b : Int, spt z (chn r sm 0 s p l z o) a → spt o (chn r sm 1 s p l z o) b → tMk M5 t (sb p s) s a b) → (x8 = 0 ↔ (r (12 + 3 * s) ≠ 1 ∧ (g = 6 ∨ canB r (sb p s) ≠ 0))) →
      X G Y_X9_bring d 0 0 80 [vA t, vI p, vI l, vI s, vI z, vI o, vI (tolV r sm p l s z o), vI (sb p s), vI x8] [] M5 Q := by
    intro M5 x8 s5 hx8 kM hxi
    have hM5 := s5.2.1
    refine B_X9_bring_80 (by omega) ht hM5.1 ⟨hn.1.1, hn.1.2, ?_⟩
    refine T_X9_gain (r := r) (sm := sm) (g := g) (p := p) (l := l) ht hM5.1 hM5.2.1.1.1 hV hM5.2.2.1.1 hg ⟨hs.1, hs.2.1⟩ (fun _ => tk.2.2.1) (by omega) ?_
    show Sh M5 ∧ _
    refine ⟨hM5.1, ⟨by omega, by omega⟩, ?_⟩
    refine T_X9_startSum ht hM5.1 hq ⟨hbr.1, by omega⟩ (by omega) (fun M6 e6 hS6 => ?_)
    obtain ⟨c6, n6, v6⟩ := e6
    show Sh M6 ∧ _
    have f6 : Fr (KX t) M5 M6 := Fr.ch c6 (fun j _ _ => Or.inl rfl)
    have hC6 : CIn M6 r sm := hM5.2.1.fr f6 (fun a j w => by unfold KX at w; omega)
    have s6 : tSp r sm t g c can I (pop p + 1) M5 M6 := tSp.small hx hM5 f6 (fun a j w => Or.inr w) hS6 hC6
    have rz : ∀ a b c0 c1 : Int, spt z c0 a → spt o c1 b → RZ a b := fun a b c0 c1 q0 q1 => ⟨⟨q0.1, by have := q0.2.1; omega⟩, ⟨q1.1, by have := q1.2.1; omega⟩⟩
    refine ⟨hS6, ⟨by omega, by omega⟩, fun y => ?_, fun y => ?_⟩
    · have hno : ¬ (r (12 + 3 * s) ≠ 1 ∧ (g = 6 ∨ canB r (sb p s) ≠ 0)) := fun w => y (hxi.mpr w)
      refine h M6 (s5.tr s6) n6 ?_ (fun w1 w2 => absurd ⟨w1, w2⟩ hno)
      rw [v6]
      unfold Wf
      by_cases e : r (12 + 3 * s) = 1
      · rw [if_pos e, Int.add_zero]
      · rw [if_neg e]
        have hcb : canB r (sb p s) = 0 := by
          by_cases w : canB r (sb p s) = 0
          · exact w
          · exact absurd ⟨e, Or.inr w⟩ hno
        have hg6 : g ≠ 6 := fun w => hno ⟨e, Or.inl w⟩
        rw [expc_z hz.1 ho.1 (fun a b a0 a1 b0 b1 => ?_), Int.add_zero]
        show (VV r sm g can (sb p s) s a b).1 = 0
        rw [VV_eq hcan.1 hNS'.1]
        split
        · show gon r g (sb p s) s = 0
          unfold gon
          rw [if_neg (fun w => hg6 w.1)]
        · rw [bstF_none]
          intro s' s0 s1
          cases w : can (sb p s) s a b s' with
          | false => rfl
          | true =>
            have := hCB (sb p s) s a b s' hNS'.1.1 hNS'.1.2 w
            rw [hcb, bt_0 ⟨s0, by omega⟩] at this
            exact absurd this (by decide)
    · obtain ⟨hE, hgc⟩ := hxi.mp y
      have hr := nod_rng hNS'
      have eW : brg r sm g s p l z o * sc (pop p) + expc (fun a b => (VV r sm g can (sb p s) s a b).1) z o (if 0 < z then chn r sm 0 s p l z o else 0) (if 0 < o then chn r sm 1 s p l z o else 0) = Wf r sm g (fun p l z o => (VV r sm g can p l z o).1) s p l z o := by
        unfold Wf
        rw [if_neg hE, expc_told hz.1 ho.1]
      have e27 : rd M6 27 (((sb p s * 5) + s) + 1) = gt flL (nod (sb p s) s) := (hC6.2.1 _ hr.1 hr.2).2.1
      refine T_X9_expect (U := fun a b => (VV r sm g can (sb p s) s a b).1) (S0 := brg r sm g s p l z o * sc (pop p)) (c0 := if 0 < z then chn r sm 0 s p l z o else 0) (c1 := if 0 < o then chn r sm 1 s p l z o else 0) (lim := limF (pop (sb p s)).toNat) (at' := gt flL (nod (sb p s) s)) ht hS6 hNS'.1 (by omega) ⟨hs.1, hs.2.1⟩ hz ho tk.1 tk.2.1 k0 k1 n6 v6 rfl e27 ⟨(node_ok hNS').2.2.2.2.2.1, by rw [sLt_1 ht hS6]; exact (node_ok hNS').2.2.2.2.2.2⟩ (fun a b a0 a1 b0 b1 w0 w1 => ?_) (by rw [eW]; omega) (by omega) (fun M8 f8 hS8 n8 v8 => ?_)
      · have p0 := spt_told.mp (stv_spt hz.1 hz.2 a0 a1 w0)
        have p1 := spt_told.mp (stv_spt ho.1 ho.2 b0 b1 w1)
        have mk := s6.2.2.2 (sb p s) s a b hNS' (rz a b _ _ p0 p1) (kM hE hgc a b p0 p1)
        have sg := s6.2.1.2.2.2.2.1 (sb p s) s a b hNS' (rz a b _ _ p0 p1) mk
        exact ⟨sg.1, sg.2.1⟩
      · have s8 : tSp r sm t g c can I (pop p + 1) M6 M8 := tSp.small hx s6.2.1 f8 (fun a j w => Or.inr w) hS8 (hC6.fr f8 (fun a j w => by unfold KX at w; omega))
        show Sh M8 ∧ _
        refine ⟨hS8, h M8 ((s5.tr s6).tr s8) n8 (by rw [v8]; exact eW) (fun w1 w2 a b q0 q1 => ?_)⟩
        exact s8.2.2.2 _ _ _ _ hNS' (rz a b _ _ q0 q1) (s6.2.2.2 _ _ _ _ hNS' (rz a b _ _ q0 q1) (kM w1 w2 a b q0 q1))
  refine C_X9_bring (B_X9_bring_0 (r := r) (sm := sm) (by omega) ht hM.1 ⟨hM.2.1, ⟨hn, ⟨hs.1, hs.2.1⟩, hs.2.2, hz, ho⟩, fun r4 M3 e4 hS3 v6 e6 => ?_⟩)
  obtain ⟨f3, hC3, er⟩ := e4
  have e6' : v6 = sb p s := e6
  rw [er, e6']
  have s3 : tSp r sm t g c can I (pop p + 1) M M3 := tSp.small hx hM f3 (fun a j w => Or.inl w) hS3 hC3
  have e4 : rd M3 4 s = r (12 + 3 * s) := (hC3.1.1.2.1 s hs.1 hs.2.1).2.2
  have hsc := hV.2.2.1 s hs.1 hs.2.1
  have hcb := canB_ok hV (sb p s)
  rw [e4, s3.2.1.2.2.1.1]
  have vis : r (12 + 3 * s) ≠ 1 → (g = 6 ∨ canB r (sb p s) ≠ 0) → C G Y_X9_visit (d - 1) 0 0 [vA t, vI (sb p s), vI s, vI z, vI o, vI (tolV r sm p l s z o)] M3 (rU (fun M11 => Sh M11 ∧ X G Y_X9_bring d 0 0 80 [vA t, vI p, vI l, vI s, vI z, vI o, vI (tolV r sm p l s z o), vI (sb p s), vI 0] [] M11 Q)) := by
    intro y y2
    refine T_X9_visit hx hSet hNS' hzo (by rw [hpop]; exact hnn) (by omega) s3.2.1 tk.1 tk.2.1 k0 k1 (fun a b q0 q1 => hx.2.2.2.2.2.2.1 p l z o s a b hn hzo hne hR hcs y (spt_told.mp q0) (spt_told.mp q1)) (fun _ => Or.inr (by omega)) (fun M11 s11 k11 => ?_)
    show Sh M11 ∧ _
    rw [hpop] at s11
    exact ⟨s11.2.1.1, fin M11 0 (s3.tr s11) (Or.inl rfl) (fun _ _ a b q0 q1 => k11 a b (spt_told.mpr q0) (spt_told.mpr q1)) ⟨fun _ => ⟨y, y2⟩, fun _ => rfl⟩⟩
  refine ⟨hs.1, hs.2.1, ⟨by omega, by omega⟩, fun y => ?_, fun y => ⟨⟨by omega, by omega⟩, fun y2 => vis y (Or.inl y2), fun y2 => ⟨hC3.1.1, hV, hNS'.1, ⟨by omega, by omega⟩, fun y3 => vis y (Or.inr y3), fun y3 => ?_⟩⟩⟩
  · exact B_X9_bring_55 (by omega) ht hS3 (fin M3 1 s3 (Or.inr rfl) (fun w => absurd y w) ⟨fun w => absurd w (by decide), fun w => absurd y w.1⟩)
  · exact B_X9_bring_55 (by omega) ht hS3 (fin M3 1 s3 (Or.inr rfl) (fun _ w => by rcases w with w | w; exact absurd w y2; exact absurd y3 w) ⟨fun w => absurd w (by decide), fun w => by rcases w.2 with w | w; exact absurd w y2; exact absurd y3 w⟩)
end ZB
