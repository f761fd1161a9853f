theorem Sh.fr {K : Int → Int → Prop} {M M' : MM} (h : Sh M) (hf : Fr K M M') (hK : ∀ p ∈ refL, ¬ K p.1 p.2.1) : Sh M' := ⟨by rw [hf.1]; exact h.1, fun b h0 h1 => by rw [hf.2.1]; exact h.2.1 b h0 h1, fun p hp => by rw [hf.2.2 _ _ (hK p hp)]; exact h.2.2 p hp⟩
section AK
variable {G : GG} {d : Nat} {M : MM} {Q : PV → MM → Prop}
theorem S_X12_reckonAll {F op ar : Int → Int} {i last b : Int} {D : Nat} {v : (Int → Int) → Option Int} (hS : Sh M) (h26 : rd M 67 26 = b) (hset : ∀ i : Int, 1 ≤ i → i < 8 → rd M 79 i = F i) (hF : FR F) (hop : ∀ k, rd M 69 (b + 98 + 2 * k) = op k) (har : ∀ k, rd M 69 (b + 98 + 2 * k + 1) = ar k) (hb0 : 0 ≤ b) (hb1 : b + 98 + 2 * last ≤ 5460) (hl : 0 ≤ last ∧ last ≤ 400) (hv : Frg op ar i last D v) (hD : D ≤ 300) (hd : 2 ≤ d)
    (h : ∀ M', Fr KA1 M M' → Sh M' → ((∃ x, v F = some x ∧ rd M' 67 29 = 0 ∧ rd M' 67 30 = x ∧ small x) ∨ (v F = none ∧ rd M' 67 29 = 1 ∧ inL (rd M' 67 30))) → Q vU M') : C G Y_X12_reckonAll d 0 0 [vA 67, vI i, vI last] M Q := by
  refine C_X12_reckonAll (B_X12_reckonAll_0 (by omega) hS fun M1 e1 hS1 => ?_)
  obtain ⟨m, hg, hsm⟩ := hv F hF [] (fun x hx => by cases hx)
  rw [List.length_nil, Nat.zero_add] at hg
  have f1 : Fr KA1 M M1 := by rw [e1]; exact Fr.rf.wr (by unfold KA1; omega)
  have ex : ∀ j, rd M1 69 j = rd M 69 j := fun j => f1.2.2 _ _ (by unfold KA1; omega)
  have := L_rckAll (M := M1) (Q := Q) (G := G) (d := d) (i := i) (fun k => (ex _).trans (hop k)) (fun k => (ex _).trans (har k)) hb0 hb1 hl hF hd hD (res := (v F).map (fun x => (last, [x])))
    (fun M' hf hS' x hx h29 h30 => by
      cases hvF : v F with
      | none => rw [hvF] at hx; cases hx
      | some z =>
        rw [hvF] at hx
        cases hx
        exact h M' (f1.tr hf) hS' (Or.inl ⟨x, hvF, h29, h30, hsm x hvF⟩))
    (fun hn M' hf hS' h29 h30 => by
      cases hvF : v F with
      | none => exact h M' (f1.tr hf) hS' (Or.inr ⟨hvF, h29, h30⟩)
      | some z => rw [hvF] at hn; cases hn)
    (by cases v F with
      | none => exact Or.inl rfl
      | some z => exact Or.inr ⟨z, rfl⟩)
    m i [] M1 hg Fr.rf hS1 (by rw [e1, rd_wr, if_pos ⟨rfl, rfl⟩]) (by rw [e1, rd_wr, if_neg (by omega)]; exact h26) (fun i i0 i1 => by rw [e1, rd_wr, if_neg (by omega)]; exact hset i i0 i1) trivial (fun x hx => by cases hx)
  exact this
def KA2 (a j : Int) : Prop := a = 80 ∨ (a = 67 ∧ (j = 29 ∨ j = 30 ∨ j = 31))
/-- whether a clause holds, and its sum -/
theorem S_X12_isSo {F : Int → Int} {l c : Int} {L : LSm} (hS : Sh M) (h26 : rd M 67 26 = 60 + 900 * l) (hset : ∀ i : Int, 1 ≤ i → i < 8 → rd M 79 i = F i) (hF : FR F) (hl : 0 ≤ l ∧ l < 6) (hL : MLaw (rd M 69) l L) (hc : 0 ≤ c ∧ c < L.1) (hd : 3 ≤ d)
    (h : ∀ M', Fr KA2 M M' → Sh M' → (hlds L F c = none → Q (vI 0) M') ∧ (∀ x, hlds L F c = some x → rd M' 67 31 = x → small x → Q (vI 1) M')) : C G Y_X12_isSo d 0 0 [vA 67, vI (60 + 900 * l + 2 + 8 * c)] M Q := by
  obtain ⟨-, l0, l12, hcl⟩ := hL
  obtain ⟨-, -, ⟨s0, s1, s2, hs⟩, t0, t1, t2, ht⟩ := hcl c hc.1 hc.2
  -- the sum, once the test has held
  have sum : ∀ M1 : MM, Fr KA2 M M1 → Sh M1 → (∃ t, L.2.2.2 c F = some t ∧ t ≠ 0) → X G Y_X12_isSo d 0 0 59 [vA 67, vI (60 + 900 * l + 2 + 8 * c)] [] M1 Q := by
    intro M1 f1 hS1 ⟨t, e1, e2⟩
    have ex : ∀ j, rd M1 69 j = rd M 69 j := fun j => f1.2.2 _ _ (by unfold KA2; omega)
    refine B_X12_isSo_59 (by omega) hS1 ⟨by omega, by omega, by omega, by omega, ?_⟩
    rw [ex, ex]
    refine S_X12_reckonAll (b := 60 + 900 * l) hS1 (by rw [f1.2.2 _ _ (by unfold KA2; omega)]; exact h26) (fun i i0 i1 => by rw [f1.2.2 _ _ (by unfold KA2; omega)]; exact hset i i0 i1) hF (fun k => ex _) (fun k => ex _) (by omega) (by omega) ⟨by omega, s2⟩ hs (by omega) (by omega) (fun M2 f2 hS2 hr => ?_)
    refine ⟨hS2, fun M3 e3 hS3 => ?_⟩
    have f3 : Fr KA2 M M3 := by rw [e3]; exact (f1.tr (f2.mono (fun a j q => by unfold KA1 at q; unfold KA2; omega))).wr (by unfold KA2; omega)
    have hh := h M3 f3 hS3
    have e29 : rd M3 67 29 = rd M2 67 29 := by rw [e3, rd_wr, if_neg (by omega)]
    have e31 : rd M3 67 31 = rd M2 67 30 := by rw [e3, rd_wr, if_pos ⟨rfl, rfl⟩]
    rw [e29]
    have hh2 : hlds L F c = L.2.2.1 c F := by unfold hlds; rw [e1]; dsimp only; rw [if_neg e2]
    rcases hr with ⟨x, q1, q2, q3, q4⟩ | ⟨q1, q2⟩
    · rw [q2, if_pos rfl]
      exact ⟨⟨by decide, by decide⟩, hh.2 x (hh2.trans q1) (by rw [e31, q3]) q4⟩
    · rw [q2.1, if_neg (by decide)]
      exact ⟨⟨by decide, by decide⟩, hh.1 (hh2.trans q1)⟩
  refine C_X12_isSo (B_X12_isSo_0 (by omega) hS ⟨by omega, by omega, by omega, by omega, ⟨by omega, by omega⟩, ⟨by omega, by omega⟩, fun q => ?_, fun q => ?_⟩)
  · rcases ht with ⟨e, et⟩ | ⟨e, et⟩
    · exact sum M Fr.rf hS ⟨1, by rw [et], by decide⟩
    · omega
  · rcases ht with ⟨e, et⟩ | ⟨e, et⟩
    · omega
    refine S_X12_reckonAll (b := 60 + 900 * l) hS h26 hset hF (fun k => rfl) (fun k => rfl) (by omega) (by omega) ⟨by omega, t2⟩ et (by omega) (by omega) (fun M2 f2 hS2 hr => ?_)
    have f2' : Fr KA2 M M2 := f2.mono (fun a j q => by unfold KA1 at q; unfold KA2; omega)
    rcases hr with ⟨x, q1, q2, q3, q4⟩ | ⟨q1, q2⟩
    · refine ⟨hS2, by rw [q2]; exact ⟨by decide, by decide⟩, by rw [q3]; exact ⟨by have := q4.1; omega, by have := q4.2; omega⟩, fun z => ?_, fun z => ?_⟩
      · refine (h M2 f2' hS2).1 ?_
        unfold hlds; rw [q1]; dsimp only
        rw [if_pos]
        rw [q2, q3] at z; omega
      · exact sum M2 f2' hS2 ⟨x, q1, fun z2 => z (Or.inr (by rw [q3]; exact z2))⟩
    · refine ⟨hS2, by rw [q2.1]; exact ⟨by decide, by decide⟩, q2.2, fun z => ?_, fun z => absurd (Or.inl (by rw [q2.1]; decide)) z⟩
      refine (h M2 f2' hS2).1 ?_
      unfold hlds; rw [q1]
def KA3 (a j : Int) : Prop := a = 80 ∨ (a = 67 ∧ (j = 26 ∨ j = 29 ∨ j = 30 ∨ j = 31))
theorem S_X12_tells {F : Int → Int} {hd' w most : Int} {sm : Int → LSm} (hS : Sh M) (hV : RS (rd M 69)) (hset : ∀ i : Int, 1 ≤ i → i < 8 → rd M 79 i = F i) (hF : FR F) (hL : MLaws (rd M 69) sm) (hh : hd' = 0 ∨ hd' = 1) (hw : 0 ≤ w ∧ w ≤ most ∧ most ≤ 100) (hd : 4 ≤ d)
    (h : ∀ M', Fr KA3 M M' → Sh M' → Q (vI (if rd M 69 2 = -1 then w else clampV (tlF (sm (rd M 69 2)) F hd' w (sm (rd M 69 2)).1.toNat) most)) M') : C G Y_X12_tells d 0 0 [vA 67, vI hd', vI w, vI most] M Q := by
  have r2 : -1 ≤ rd M 69 2 ∧ rd M 69 2 < rd M 69 1 ∧ rd M 69 1 ≤ 6 := ⟨hV.2.2.2.2.2.2.2.2.2.2.2.2.1, hV.2.2.2.2.2.2.2.2.2.2.2.2.2.1, hV.2.2.2.2.2.2.2.2.2.2.2.1⟩
  refine C_X12_tells (B_X12_tells_0 (by omega) hS ⟨⟨by omega, by omega⟩, fun q M1 e1 hS1 => ⟨⟨by omega, by omega⟩, ?_⟩, fun q => ?_⟩)
  · have f1 : Fr KA3 M M1 := by rw [e1]; exact Fr.rf.wr (by unfold KA3; omega)
    have ex : ∀ a j, ¬ (a = 67 ∧ j = 26) → rd M1 a j = rd M a j := fun a j q => by rw [e1, rd_wr, if_neg q]
    have e26 : rd M1 67 26 = 60 + 900 * rd M 69 2 := by rw [e1, rd_wr, if_pos ⟨rfl, rfl⟩]
    have hML := hL (rd M 69 2) (by omega) (by omega)
    generalize hl : rd M 69 2 = l at *
    generalize hLL : sm l = L at *
    have hML1 : MLaw (rd M1 69) l L := by rw [show rd M1 69 = rd M 69 from funext fun j => ex _ _ (by omega)]; exact hML
    rw [if_neg q] at h
    have hb : ∀ n : Nat, -1000000000 ≤ tlF L F hd' w n ∧ tlF L F hd' w n ≤ 1000000000 → True := fun _ _ => trivial
    have key : ∀ m c : Nat, (c : Int) + m = L.1 → ∀ Mk, Fr KA3 M1 Mk → rd Mk 67 26 = 60 + 900 * l → Sh Mk → small (tlF L F hd' w c) → X G Y_X12_tells d 0 0 36 [vA 67, vI hd', vI w, vI most, vL (tlF L F hd' w c), vU, vI c, vU] [] Mk Q := by
      intro m
      induction m with
      | zero =>
        intro c hc Mk fk k26 hSk hsm
        have r69 : rd Mk 69 = rd M1 69 := funext fun j => fk.2.2 _ _ (by unfold KA3; omega)
        have s1 := hsm.1
        have s2 := hsm.2
        have l12 := hML1.2.2.1
        rw [show L.1.toNat = c by omega] at h
        refine B_X12_tells_36 (by omega) hSk ?_
        rw [k26, r69, hML1.1]
        refine ⟨by omega, by omega, ⟨by omega, by omega⟩, ⟨by have := hML1.2.1; omega, by have := hML1.2.2.1; omega⟩, fun _ => ⟨⟨by omega, by omega⟩, ⟨by omega, by omega⟩, ⟨by omega, by omega⟩, ?_⟩, fun z => by omega⟩
        have hq := h Mk (f1.tr fk) hSk
        unfold clampV at hq
        have e : (if 0 ≤ tlF L F hd' w c then (if tlF L F hd' w c ≤ most then tlF L F hd' w c else most) else 0) = (if tlF L F hd' w c < 0 then 0 else if most < tlF L F hd' w c then most else tlF L F hd' w c) := by
          generalize tlF L F hd' w c = v
          by_cases a : v < 0
          · rw [if_pos a, if_neg (by omega)]
          · rw [if_neg a, if_pos (by omega)]
            by_cases b : most < v
            · rw [if_pos b, if_neg (by omega)]
            · rw [if_neg b, if_pos (by omega)]
        rw [e]; exact hq
      | succ m ih =>
        intro c hc Mk fk k26 hSk hsm
        have r69 : rd Mk 69 = rd M1 69 := funext fun j => fk.2.2 _ _ (by unfold KA3; omega)
        obtain ⟨c1, c2, -⟩ := hML1.2.2.2 c (by omega) (by omega)
        have l12 := hML1.2.2.1
        refine B_X12_tells_36 (by omega) hSk ?_
        rw [k26, r69, hML1.1]
        refine ⟨by omega, by omega, ⟨by omega, by omega⟩, ⟨by omega, by omega⟩, fun z => by omega, fun _ v19 e19 => ?_⟩
        subst e19
        rw [c1]
        refine ⟨by omega, by omega, ⟨by omega, by omega⟩, ⟨by omega, by omega⟩, fun z => ?_, fun z => ?_⟩
        · have := ih (c + 1) (by omega) Mk fk k26 hSk (by rw [tlF, if_neg z]; exact hsm)
          rw [tlF, if_neg z] at this
          exact this
        · refine S_X12_isSo (l := l) (F := F) hSk k26 (fun i i0 i1 => by rw [fk.2.2 _ _ (by unfold KA3; omega), ex _ _ (by omega)]; exact hset i i0 i1) hF ⟨by omega, by omega⟩ (by rw [r69]; exact hML1) ⟨by omega, by omega⟩ (by omega) (fun M2 f2 hS2 => ⟨fun hn => ?_, fun x hx e31 hsx => ?_⟩)
          · refine ⟨hS2, ⟨by decide, by decide⟩, fun _ => ?_, fun z2 => absurd rfl z2⟩
            have := ih (c + 1) (by omega) M2 (fk.tr (f2.mono (fun a j q => by unfold KA2 at q; unfold KA3; omega))) (by rw [f2.2.2 _ _ (by unfold KA2; omega)]; exact k26) hS2 (by rw [tlF, if_pos z, hn]; exact hsm)
            rw [tlF, if_pos z, hn] at this
            exact this
          · refine ⟨hS2, ⟨by decide, by decide⟩, fun z2 => absurd z2 (by decide), fun _ v27 e27 => ?_⟩
            have := ih (c + 1) (by omega) M2 (fk.tr (f2.mono (fun a j q => by unfold KA2 at q; unfold KA3; omega))) (by rw [f2.2.2 _ _ (by unfold KA2; omega)]; exact k26) hS2 (by rw [tlF, if_pos z, hx]; exact hsx)
            rw [tlF, if_pos z, hx] at this
            rw [e27, e31]
            exact this
    exact key L.1.toNat 0 (by have := hML.2.1; omega) M1 Fr.rf e26 hS1 ⟨by show -1000000000 ≤ w; omega, by show w ≤ _; omega⟩
  · have := h M Fr.rf hS
    rw [if_pos q] at this
    exact this
/-- the facts that a law is asked about -/
def fcts (so sc be hs ow mi pl : Int) : Int → Int := fun i => if i = 1 then so else if i = 2 then sc else if i = 3 then be else if i = 4 then hs else if i = 5 then ow else if i = 6 then mi else if i = 7 then pl else 0
theorem S_X12_ask {hd' so sc be hs ow mi pl : Int} {sm : Int → LSm} (hS : Sh M) (hV : RS (rd M 69)) (hL : MLaws (rd M 69) sm) (hh : hd' = 0 ∨ hd' = 1) (hf : FR (fcts so sc be hs ow mi pl)) (hd : 5 ≤ d)
    (h : ∀ M', Fr KA M M' → Sh M' → Q (vI (askV (rd M 69) sm (fcts so sc be hs ow mi pl) hd')) M') : C G Y_X12_ask d 0 0 [vA 67, vI hd', vI so, vI sc, vI be, vI hs, vI ow, vI mi, vI pl] M Q := by
  have f1 := hf 1 (by decide) (by decide)
  have f2 := hf 2 (by decide) (by decide)
  have f3 := hf 3 (by decide) (by decide)
  have f4 := hf 4 (by decide) (by decide)
  have f5 := hf 5 (by decide) (by decide)
  have f6 := hf 6 (by decide) (by decide)
  have f7 := hf 7 (by decide) (by decide)
  have g1 : -1000 ≤ so ∧ so ≤ 1000 := f1
  have g2 : -1000 ≤ sc ∧ sc ≤ 1000 := f2
  have g3 : -1000 ≤ be ∧ be ≤ 1000 := f3
  have g4 : -1000 ≤ hs ∧ hs ≤ 1000 := f4
  have g5 : -1000 ≤ ow ∧ ow ≤ 1000 := f5
  have g6 : -1000 ≤ mi ∧ mi ≤ 1000 := f6
  have g7 : -1000 ≤ pl ∧ pl ≤ 1000 := f7
  refine C_X12_ask (B_X12_ask_0 (by omega) hS ?_)
  refine ⟨⟨by omega, by omega⟩, fun M1 e1 h1 => ⟨⟨by omega, by omega⟩, fun M2 e2 h2 => ⟨⟨by omega, by omega⟩, fun M3 e3 h3 => ⟨⟨by omega, by omega⟩, fun M4 e4 h4 => ⟨⟨by omega, by omega⟩, fun M5 e5 h5 => ⟨⟨by omega, by omega⟩, fun M6 e6 h6 => ⟨⟨by omega, by omega⟩, fun M7 e7 h7 => ⟨⟨by omega, by omega⟩, ?_⟩⟩⟩⟩⟩⟩⟩⟩
  have fr : Fr KA M M7 := by
    rw [e7, e6, e5, e4, e3, e2, e1]
    exact ((((((Fr.rf.wr (Or.inl rfl)).wr (Or.inl rfl)).wr (Or.inl rfl)).wr (Or.inl rfl)).wr (Or.inl rfl)).wr (Or.inl rfl)).wr (Or.inl rfl)
  have r69 : rd M7 69 = rd M 69 := funext fun j => fr.2.2 _ _ (by unfold KA; omega)
  have hset : ∀ i : Int, 1 ≤ i → i < 8 → rd M7 79 i = fcts so sc be hs ow mi pl i := by
    intro i i0 i1
    have : i = 1 ∨ i = 2 ∨ i = 3 ∨ i = 4 ∨ i = 5 ∨ i = 6 ∨ i = 7 := by omega
    rw [e7, e6, e5, e4, e3, e2, e1]
    rcases this with rfl | rfl | rfl | rfl | rfl | rfl | rfl <;> simp [rd_wr, fcts]
  have hV7 : RS (rd M7 69) := by rw [r69]; exact hV
  have hL7 : MLaws (rd M7 69) sm := by rw [r69]; exact hL
  refine ⟨fun q => ?_, fun q => ?_⟩
  · refine S_X12_tells h7 hV7 hset hf hL7 (Or.inr rfl) ⟨by decide, by decide, by decide⟩ (by omega) (fun M8 f8 h8 => ⟨h8, ?_⟩)
    have := h M8 (fr.tr (f8.mono (fun a j z => by unfold KA3 at z; unfold KA; omega))) h8
    have e1 : hd' = 1 := by omega
    subst e1
    rw [r69]
    unfold askV askL at this
    simpa using this
  · refine S_X12_tells h7 hV7 hset hf hL7 (Or.inl rfl) ⟨by decide, by decide, by decide⟩ (by omega) (fun M8 f8 h8 => ⟨h8, ?_⟩)
    have := h M8 (fr.tr (f8.mono (fun a j z => by unfold KA3 at z; unfold KA; omega))) h8
    subst q
    rw [r69]
    unfold askV askL at this
    simpa using this
end AK
