/-! ===== the class asks its law ===== -/
def opC (f : Int → Int) (k : Int) : Int := if iAnd (f k) 15 = 0 then 0 else if iAnd (f k) 15 = 1 then (if 0 ≤ iShr (f k) 4 ∧ iShr (f k) 4 < 7 then iShr (f k) 4 + 1 else 99) else if iAnd (f k) 15 = 9 then 27 else if iAnd (f k) 15 = 10 then 29 else if iAnd (f k) 15 = 11 then 28 else iAnd (f k) 15 + 18
def arC (f : Int → Int) (k : Int) : Int := iShr (f k) 4
/-- the law object at ob is L -/
def CLaw (M : MM) (ob : Int) (L : LSm) : Prop := 94 ≤ ob ∧ okO M ob 4 ∧ 94 ≤ rd M ob 1 ∧ 94 ≤ rd M ob 2 ∧ 94 ≤ rd M ob 3 ∧ rd M ob 0 = L.1 ∧ 0 ≤ L.1 ∧ L.1 ≤ 12 ∧
  (∀ c : Int, 0 ≤ c → c < L.1 → okA M (rd M ob 1) 20 c ∧ okA M (rd M ob 2) 20 c ∧ okA M (rd M ob 2) 20 (c + 1) ∧ rd M (rd M ob 1) c = L.2.1 c ∧ (L.2.1 c = 0 ∨ L.2.1 c = 1) ∧
    ∃ mid : Int, 0 ≤ rd M (rd M ob 2) c ∧ rd M (rd M ob 2) c < mid ∧ mid ≤ rd M (rd M ob 2) (c + 1) ∧ rd M (rd M ob 2) (c + 1) ≤ 400 ∧ (∀ k : Int, 0 ≤ k → k < rd M (rd M ob 2) (c + 1) → okA M (rd M ob 3) 20 k) ∧
      Frg (opC (rd M (rd M ob 3))) (arC (rd M (rd M ob 3))) (rd M (rd M ob 2) c) mid 50 (L.2.2.1 c) ∧
      ((mid = rd M (rd M ob 2) (c + 1) ∧ L.2.2.2 c = fun _ => some 1) ∨ (mid < rd M (rd M ob 2) (c + 1) ∧ Frg (opC (rd M (rd M ob 3))) (arC (rd M (rd M ob 3))) mid (rd M (rd M ob 2) (c + 1)) 50 (L.2.2.2 c))))
/-- the house's laws -/
def CLaws (M : MM) (r : Int → Int) (sm : Int → LSm) : Prop := ∀ l : Int, 0 ≤ l → l < r 1 → CLaw M (rd M 9 l) (sm l)
theorem okO.tr {M M' : MM} {r : Int} {kd : Nat} (h : okO M r kd) (hN : mN M ≤ mN M') (hT : ∀ b, 0 ≤ b → b < mN M → mT M' b = mT M b) : okO M' r kd := ⟨h.1, by have := h.2.1; omega, by rw [hT r h.1 h.2.1]; exact h.2.2⟩
theorem okA.tr {M M' : MM} {r i : Int} {kd : Nat} (h : okA M r kd i) (hN : mN M ≤ mN M') (hT : ∀ b, 0 ≤ b → b < mN M → mT M' b = mT M b) : okA M' r kd i := ⟨h.1, by have := h.2.1; omega, by rw [hT r h.1 h.2.1]; exact h.2.2.1, h.2.2.2.1, by rw [hT r h.1 h.2.1]; exact h.2.2.2.2⟩
theorem CLaw.fr {M M' : MM} {ob : Int} {L : LSm} (h : CLaw M ob L) (hN : mN M ≤ mN M') (hT : ∀ b, 0 ≤ b → b < mN M → mT M' b = mT M b) (h0 : ∀ j, rd M' ob j = rd M ob j) (h1 : ∀ j, rd M' (rd M ob 1) j = rd M (rd M ob 1) j) (h2 : ∀ j, rd M' (rd M ob 2) j = rd M (rd M ob 2) j) (h3 : ∀ j, rd M' (rd M ob 3) j = rd M (rd M ob 3) j) : CLaw M' ob L := by
  obtain ⟨g1, g2, g3, g4, g5, g6, g7, g8, g9⟩ := h
  have e1 : rd M' (rd M' ob 1) = rd M (rd M ob 1) := by rw [h0]; exact funext h1
  have e2 : rd M' (rd M' ob 2) = rd M (rd M ob 2) := by rw [h0]; exact funext h2
  have e3 : rd M' (rd M' ob 3) = rd M (rd M ob 3) := by rw [h0]; exact funext h3
  unfold CLaw
  rw [e1, e2, e3, h0, h0, h0, h0]
  refine ⟨g1, g2.tr hN hT, g3, g4, g5, g6, g7, g8, fun c c0 c1 => ?_⟩
  obtain ⟨q1, q2, q3, q4, q5, mid, m0, m1, m2, m3, m4, m5⟩ := g9 c c0 c1
  exact ⟨q1.tr hN hT, q2.tr hN hT, q3.tr hN hT, q4, q5, mid, m0, m1, m2, m3, fun k k0 k1 => (m4 k k0 k1).tr hN hT, m5⟩
theorem CLaw.frK {K : Int → Int → Prop} {M M' : MM} {ob : Int} {L : LSm} (h : CLaw M ob L) (hf : Fr K M M') (hK : ∀ a j, K a j → a < 94) : CLaw M' ob L :=
  h.fr (Int.le_of_eq hf.1.symm) (fun b _ _ => hf.2.1 b) (fun j => hf.2.2 _ _ (fun q => by have := hK _ _ q; have := h.1; omega)) (fun j => hf.2.2 _ _ (fun q => by have := hK _ _ q; have := h.2.2.1; omega)) (fun j => hf.2.2 _ _ (fun q => by have := hK _ _ q; have := h.2.2.2.1; omega)) (fun j => hf.2.2 _ _ (fun q => by have := hK _ _ q; have := h.2.2.2.2.1; omega))
theorem CLaws.frK {K : Int → Int → Prop} {M M' : MM} {r : Int → Int} {sm : Int → LSm} (h : CLaws M r sm) (hf : Fr K M M') (hK : ∀ a j, K a j → a < 94 ∧ a ≠ 9) : CLaws M' r sm := fun l l0 l1 => by
  rw [hf.2.2 9 l (fun q => (hK _ _ q).2 rfl)]
  exact (h l l0 l1).frK hf (fun a j q => (hK a j q).1)
def KB (a j : Int) : Prop := a = 24
theorem iAnd15 (x : Int) : 0 ≤ iAnd x 15 ∧ iAnd x 15 ≤ 15 := by
  have h : (Int32.ofInt x &&& Int32.ofInt 15).toBitVec.toNat ≤ 15 := by
    rw [Int32.toBitVec_and, BitVec.toNat_and]
    exact Nat.and_le_right
  unfold iAnd
  rw [← Int32.toInt_toBitVec, BitVec.toInt_eq_toNat_cond]
  split <;> omega
theorem goM_le {op ar F : Int → Int} {j : Int} {D m : Nat} {k : Int} {S : List Int} {res : Option (Int × List Int)} (h : goM op ar F j D m k S res) : k ≤ j := by
  cases m with
  | zero => exact h.2
  | succ m => exact Int.le_of_lt h.2.1
section AC
variable {G : GG} {d : Nat} {M : MM} {Q : PV → MM → Prop}
theorem skipL {ca f to top sk : Int} (hd : 1 ≤ d) (hS : Sh M) (hto : 0 ≤ to ∧ to ≤ 400) (hsk : sk ≤ to) (htop : 0 ≤ top ∧ top ≤ 64) (h : X G Y_X0_holds d 0 0 9 [vA 22, vA ca, vI f, vI to, vI top, vI sk, vI sk, vU, vU, vU] [] M Q) :
    ∀ m : Nat, ∀ k : Int, 0 ≤ k → k + m = sk → X G Y_X0_holds d 0 0 9 [vA 22, vA ca, vI f, vI to, vI top, vI sk, vI k, vU, vU, vU] [] M Q := by
  intro m
  induction m with
  | zero => intro k k0 hk; have : k = sk := by omega
            subst this; exact h
  | succ m ih =>
    intro k k0 hk
    refine B_X0_holds_9 hd hS ⟨⟨by omega, by omega⟩, ⟨by omega, by omega⟩, fun z => by omega, fun _ => ⟨⟨by omega, by omega⟩, fun z => by omega, fun _ => ih (k + 1) (by omega) (by omega)⟩⟩
theorem L_holds {F f : Int → Int} {ca fr to last : Int} (hca : 94 ≤ ca) (hf : ∀ k, rd M ca k = f k) (hok : ∀ k : Int, 0 ≤ k → k < to → okA M ca 20 k) (hto : 0 ≤ to ∧ to ≤ 400) (hla : last ≤ to) (hF : FR F) (hd : 2 ≤ d) {D : Nat} (hD : D ≤ 60) {res : Option (Int × List Int)}
    (fin : ∀ M' S', res = some (last, S') → Fr KB M M' → Sh M' → stk (rd M' 24) S' → smallL S' → ∀ sk : Int, 0 ≤ sk → sk ≤ last → X G Y_X0_holds d 0 0 9 [vA 22, vA ca, vI fr, vI to, vI S'.length, vI sk, vI last, vU, vU, vU] [] M' Q) (brk : res = none → ∀ M', Fr KB M M' → Sh M' → Q (vI 0) M') (hres : ∀ k' S', res = some (k', S') → k' = last) :
    ∀ m k S Mk sk, goM (opC f) (arC f) F last D m k S res → Fr KB M Mk → Sh Mk → (∀ i : Int, 1 ≤ i → i < 8 → rd Mk 23 (i - 1) = F i) → stk (rd Mk 24) S → smallL S → 0 ≤ sk → sk ≤ k →
      X G Y_X0_holds d 0 0 9 [vA 22, vA ca, vI fr, vI to, vI S.length, vI sk, vI k, vU, vU, vU] [] Mk Q := by
  intro m
  induction m with
  | zero =>
    intro k S Mk sk hg hf1 hS hset hst hsm s0 s1
    obtain ⟨e, hk⟩ := hg
    have := hres k S e
    subst this
    exact fin Mk S e hf1 hS hst hsm sk s0 s1
  | succ m ih =>
    intro k S Mk sk hg hfr hS hset hst hsm s0 s1
    obtain ⟨k0, k1, hD1, hD2, hokS, hstep⟩ := hg
    have rc : rd Mk ca k = f k := (hfr.2.2 ca k (by unfold KB; omega)).trans (hf k)
    have okc : okA Mk ca 20 k := by
      obtain ⟨q1, q2, q3, q4, q5⟩ := hok k k0 (by omega)
      exact ⟨q1, by rw [hfr.1]; exact q2, by rw [hfr.2.1]; exact q3, q4, by rw [hfr.2.1]; exact q5⟩
    have hlen : (S.length : Int) ≤ 60 := by omega
    refine B_X0_holds_9 (by omega) hS ⟨⟨by omega, by omega⟩, ⟨by omega, by omega⟩, fun z => by omega, fun _ => ⟨⟨by omega, by omega⟩, fun _ => ⟨okc, fun o eo a ea => ?_⟩, fun z => by omega⟩⟩
    rw [rc] at eo ea
    have ea2 : arC f k = a := ea.symm
    unfold okS at hokS
    unfold stp at hstep
    rw [ea2] at hokS hstep
    have hop : opC f k = if o = 0 then 0 else if o = 1 then (if 0 ≤ a ∧ a < 7 then a + 1 else 99) else if o = 9 then 27 else if o = 10 then 29 else if o = 11 then 28 else o + 18 := by unfold opC; rw [← eo, ← ea]
    have oR : inR o := by rw [eo]; exact inR_iAnd _ _
    have o15 : 0 ≤ o ∧ o ≤ 15 := by rw [eo]; exact iAnd15 (f k)
    refine ⟨oR, fun z => ⟨fun z2 => ?_, fun z2 => ?_⟩, fun z => ?_⟩
    · -- an operation
      have hop2 : opC f k = o + 18 := by rw [hop, if_neg (by omega), if_neg (by omega), if_neg (by omega), if_neg (by omega), if_neg (by omega)]
      rw [hop2] at hokS hstep hD2
      have h2 : 2 ≤ S.length := by
        rcases hokS with ⟨q, q2, -⟩ | ⟨-, -, q⟩ | ⟨q, -⟩
        · omega
        · exact q
        · omega
      obtain ⟨y, x, T, rfl⟩ := len2 h2
      rw [if_neg (by omega), if_pos (by omega)] at hstep
      dsimp only at hstep
      have hx : rd Mk 24 (T.length : Int) = x := hst.2.1
      have hy : rd Mk 24 ((T.length : Int) + 1) = y := by have := hst.1; rw [List.length_cons] at this; exact_mod_cast this
      have sx := hsm x (by simp)
      have sy := hsm y (by simp)
      have eL : (((y :: x :: T).length : Nat) : Int) = (T.length : Int) + 2 := by simp only [List.length_cons]; omega
      rw [eL] at hlen ⊢
      have iL := rckV_L (op := o + 18) sx sy
      have e3 : (T.length : Int) + 2 + (-1) - 1 = T.length := by omega
      have e4 : (T.length : Int) + 2 + (-1) = (T.length : Int) + 1 := by omega
      have e5 : (T.length : Int) + 2 - 1 = (T.length : Int) + 1 := by omega
      have go : ¬ (o + 18 = 23 ∧ y = 0) → ∀ v8 : Int, X G Y_X0_holds d 0 0 215 [vA 22, vA ca, vI fr, vI to, vI ((T.length : Int) + 2), vI sk, vI k, vI o, vI v8, vU] [] Mk Q := by
        intro hnd v8
        refine B_X0_holds_215 hd hS ?_
        rw [e3, e4, hx, hy]
        refine ⟨by omega, by omega, by omega, by omega, oR, ⟨by have := sx.1; omega, by have := sx.2; omega⟩, ⟨by have := sy.1; omega, by have := sy.2; omega⟩, fun M1 e1 hS1 => ?_⟩
        have b24 : rd M1 24 (T.length : Int) = rckV (o + 18) x y := by rw [e1, rd_wr, if_pos ⟨rfl, rfl⟩]
        rw [b24]
        have f1 : Fr KB M M1 := by rw [e1]; exact hfr.wr rfl
        refine ⟨iL, fun w => ?_, fun w => ⟨fun w2 => ?_, fun w2 => ?_⟩⟩
        · rw [if_pos (by omega)] at hstep
          exact brk hstep M1 f1 hS1
        · rw [if_neg (by omega)] at hstep
          obtain ⟨-, hgo⟩ := hstep
          have := ih (k + 1) _ M1 sk hgo f1 hS1 (fun i i0 i1 => by rw [e1, rd_wr, if_neg (by omega)]; exact hset i i0 i1) ⟨b24, hst.2.2.cg (fun i i0 i1 => by rw [e1, rd_wr, if_neg (by omega)])⟩ (fun z hz => by
            rcases List.mem_cons.mp hz with rfl | hz
            · unfold small; omega
            · exact hsm z (by simp [hz])) s0 (by omega)
          rw [show (((rckV (o + 18) x y :: T).length : Nat) : Int) = (T.length : Int) + 1 by simp only [List.length_cons]; omega] at this
          exact this
        · rw [if_pos (by omega)] at hstep
          exact brk hstep M1 f1 hS1
      refine ⟨⟨by omega, by omega⟩, fun w => by omega, fun _ => ⟨fun w => go (by omega) a, fun w => ?_⟩⟩
      rw [e5, hy]
      refine ⟨by omega, by omega, ⟨by have := sy.1; omega, by have := sy.2; omega⟩, fun w2 => go (by omega) a, fun w2 => ?_⟩
      rw [if_pos (Or.inl ⟨by omega, w2⟩)] at hstep
      exact brk hstep Mk hfr hS
    · -- not, or, and
      have hop3 : 27 ≤ opC f k ∧ opC f k < 30 → ∃ x T, S = x :: T ∧ (x = 0 ∨ x = 1) := by
        intro q
        rcases hokS with ⟨q1, q2, -⟩ | ⟨q1, q2, -⟩ | ⟨-, -, q3⟩
        · omega
        · omega
        · exact q3
      have ho : o = 9 ∨ o = 10 ∨ o = 11 ∨ 12 ≤ o := by omega
      have hcase : (o = 9 ∧ opC f k = 27) ∨ (o = 10 ∧ opC f k = 29) ∨ (o = 11 ∧ opC f k = 28) := by
        rcases ho with e | e | e | e
        · exact Or.inl ⟨e, by rw [hop, e]; rfl⟩
        · exact Or.inr (Or.inl ⟨e, by rw [hop, e]; rfl⟩)
        · exact Or.inr (Or.inr ⟨e, by rw [hop, e]; rfl⟩)
        · exfalso
          have e2 : opC f k = o + 18 := by rw [hop, if_neg (by omega), if_neg (by omega), if_neg (by omega), if_neg (by omega), if_neg (by omega)]
          rw [e2] at hokS
          rcases hokS with ⟨q1, q2, -⟩ | ⟨q1, q2, -⟩ | ⟨q1, q2, -⟩ <;> omega
      obtain ⟨x, T, rfl, h01⟩ := hop3 (by omega)
      clear hokS hop3
      dsimp only at hstep
      have hx : rd Mk 24 (T.length : Int) = x := hst.1
      have eL : (((x :: T).length : Nat) : Int) = (T.length : Int) + 1 := by simp only [List.length_cons]; omega
      rw [eL] at hlen ⊢
      have e3 : (T.length : Int) + 1 - 1 = T.length := by omega
      have e4 : (T.length : Int) + 1 + (-1) = T.length := by omega
      rw [e3, e4, hx]
      refine ⟨⟨by omega, by omega⟩, fun _ => ⟨by omega, by omega, ⟨by omega, by omega⟩, fun v38 e38 => ⟨fun w => ?_, fun w => ?_⟩⟩, fun w => by omega⟩
      · have v01 : v38 = x := by rcases h01 with e | e <;> rw [e38, e] <;> rfl
        have hs2 : (x = (if o = 10 then 1 else 0) → arC f k ≤ to → X G Y_X0_holds d 0 0 9 [vA 22, vA ca, vI fr, vI to, vI ((T.length : Int) + 1), vI a, vI (k + 1), vU, vU, vU] [] Mk Q) ∧ (x ≠ (if o = 10 then 1 else 0) → X G Y_X0_holds d 0 0 9 [vA 22, vA ca, vI fr, vI to, vI (T.length : Int), vI sk, vI (k + 1), vU, vU, vU] [] Mk Q) := by
          rw [if_neg (by omega), if_neg (by omega), if_neg (by omega)] at hstep
          have eq2 : (if opC f k = 28 then (0 : Int) else 1) = if o = 10 then 1 else 0 := by
            rcases hcase with ⟨q1, q2⟩ | ⟨q1, q2⟩ | ⟨q1, q2⟩
            · omega
            · rw [q1, q2]; rfl
            · rw [q1, q2]; rfl
          rw [eq2] at hstep
          refine ⟨fun q hat => ?_, fun q => ?_⟩
          · rw [if_pos q] at hstep
            obtain ⟨hk2, hgo⟩ := hstep
            have := ih a (x :: T) Mk a hgo hfr hS hset hst hsm (by dsimp only at hk2; omega) (Int.le_refl _)
            rw [eL] at this
            dsimp only at hk2
            exact skipL (by omega) hS hto (by omega) ⟨by omega, by omega⟩ this (a - (k + 1)).toNat (k + 1) (by omega) (by omega)
          · rw [if_neg q] at hstep
            obtain ⟨-, hgo⟩ := hstep
            exact ih (k + 1) T Mk sk hgo hfr hS hset hst.2 (fun z hz => hsm z (by simp [hz])) s0 (by omega)
        refine ⟨by rw [v01]; exact ⟨by omega, by omega⟩, fun q => hs2.2 (by rw [← v01]; exact q), fun q => hs2.1 (by rw [← v01]; exact q) ?_⟩
        have hq : x = (if o = 10 then 1 else 0) := by rw [← v01]; exact q
        rw [if_neg (by omega), if_neg (by omega), if_neg (by omega)] at hstep
        have eq2 : (if opC f k = 28 then (0 : Int) else 1) = if o = 10 then 1 else 0 := by
          rcases hcase with ⟨q1, q2⟩ | ⟨q1, q2⟩ | ⟨q1, q2⟩
          · omega
          · rw [q1, q2]; rfl
          · rw [q1, q2]; rfl
        rw [eq2, if_pos hq] at hstep
        have := goM_le hstep.2
        dsimp only at this
        omega
      · have hop9 : opC f k = 27 := by omega
        rw [hop9, if_neg (by omega), if_neg (by omega), if_pos rfl] at hstep
        obtain ⟨-, hgo⟩ := hstep
        have v01 : v38 = x := by rcases h01 with e | e <;> rw [e38, e] <;> rfl
        refine ⟨by rw [v01]; exact ⟨by omega, by omega⟩, fun M1 e1 hS1 => ?_⟩
        have e5 : (if v38 = 0 then (1 : Int) else 0) = 1 - x := by rcases h01 with e | e <;> rw [v01, e] <;> rfl
        rw [e5] at e1
        have := ih (k + 1) _ M1 sk hgo (by rw [e1]; exact hfr.wr rfl) hS1 (fun i i0 i1 => by rw [e1, rd_wr, if_neg (by omega)]; exact hset i i0 i1) ⟨by rw [e1, rd_wr, if_pos ⟨rfl, rfl⟩], hst.2.cg (fun i i0 i1 => by rw [e1, rd_wr, if_neg (by omega)])⟩ (fun y hy => by
          rcases List.mem_cons.mp hy with rfl | hy
          · unfold small; omega
          · exact hsm y (by simp [hy])) s0 (by omega)
        rw [show ((((1 - x) :: T).length : Nat) : Int) = (T.length : Int) + 1 by simp only [List.length_cons]; omega] at this
        exact this
    · -- a number or a fact
      have hcase : (o = 0 ∧ opC f k = 0) ∨ (o = 1 ∧ 0 ≤ a ∧ a < 7 ∧ opC f k = a + 1) := by
        have e : o = 0 ∨ o = 1 := by omega
        rcases e with e | e
        · exact Or.inl ⟨e, by rw [hop, if_pos e]⟩
        · by_cases q : 0 ≤ a ∧ a < 7
          · exact Or.inr ⟨e, q.1, q.2, by rw [hop, if_neg (by omega), if_pos e, if_pos q]⟩
          · exfalso
            have e2 : opC f k = 99 := by rw [hop, if_neg (by omega), if_pos e, if_neg q]
            rw [e2] at hokS
            rcases hokS with ⟨q1, q2, -⟩ | ⟨q1, q2, -⟩ | ⟨q1, q2, -⟩ <;> omega
      have h0 : opC f k < 20 := by omega
      have hD3 := hD2 h0
      rw [if_pos h0] at hstep
      obtain ⟨-, hgo⟩ := hstep
      have oa : opC f k = 0 → 0 ≤ a ∧ a ≤ 1000 := by
        intro q
        rcases hokS with ⟨-, -, q3⟩ | ⟨q1, -⟩ | ⟨q1, -⟩
        · exact q3 q
        · omega
        · omega
      refine ⟨⟨by omega, by omega⟩, fun _ => ⟨fun w => ?_, fun w => ?_⟩, fun w => by omega⟩
      · have hc : 0 ≤ a ∧ a < 7 ∧ opC f k = a + 1 := by omega
        have hs := hset (a + 1) (by omega) (by omega)
        rw [show a + 1 - 1 = a by omega] at hs
        have hfr2 := hF (a + 1) (by omega) (by omega)
        refine ⟨hc.1, hc.2.1, by rw [hs]; exact ⟨by omega, by omega⟩, by omega, by omega, fun M1 e1 hS1 => ?_⟩
        dsimp only at hgo
        rw [if_neg (by omega), hc.2.2, ← hs] at hgo
        have := ih (k + 1) _ M1 sk hgo (by rw [e1]; exact hfr.wr rfl) hS1 (fun i i0 i1 => by rw [e1, rd_wr, if_neg (by omega)]; exact hset i i0 i1) ⟨by rw [e1, rd_wr, if_pos ⟨rfl, rfl⟩], hst.cg (fun i i0 i1 => by rw [e1, rd_wr, if_neg (by omega)])⟩ (fun y hy => by
          rcases List.mem_cons.mp hy with rfl | hy
          · rw [hs]; unfold small; omega
          · exact hsm y hy) s0 (by omega)
        rw [List.length_cons] at this
        exact_mod_cast this
      · have hc : opC f k = 0 := by omega
        have := oa hc
        refine ⟨⟨by omega, by omega⟩, by omega, by omega, fun M1 e1 hS1 => ?_⟩
        dsimp only at hgo
        rw [if_pos hc] at hgo
        have := ih (k + 1) _ M1 sk hgo (by rw [e1]; exact hfr.wr rfl) hS1 (fun i i0 i1 => by rw [e1, rd_wr, if_neg (by omega)]; exact hset i i0 i1) ⟨by rw [e1, rd_wr, if_pos ⟨rfl, rfl⟩], hst.cg (fun i i0 i1 => by rw [e1, rd_wr, if_neg (by omega)])⟩ (fun y hy => by
          rcases List.mem_cons.mp hy with rfl | hy
          · unfold small; omega
          · exact hsm y hy) s0 (by omega)
        rw [List.length_cons] at this
        exact_mod_cast this
theorem smallL_1 {x : Int} (h : small x) : smallL [x] := fun y hy => by
  rcases List.mem_cons.mp hy with rfl | hy
  · exact h
  · cases hy
/-- whether a clause holds; its sum is at the bottom of the stack -/
theorem S_X0_holds {F : Int → Int} {ob c : Int} {L : LSm} (hS : Sh M) (hL : CLaw M ob L) (hc : 0 ≤ c ∧ c < L.1) (hset : ∀ i : Int, 1 ≤ i → i < 8 → rd M 23 (i - 1) = F i) (hF : FR F) (hd : 2 ≤ d)
    (h : ∀ M', Fr KB M M' → Sh M' → (hlds L F c = none → Q (vI 0) M') ∧ (∀ x, hlds L F c = some x → rd M' 24 0 = x → small x → Q (vI 1) M')) : C G Y_X0_holds d 0 0 [vA 22, vA (rd M ob 3), vI (rd M (rd M ob 2) c), vI (rd M (rd M ob 2) (c + 1))] M Q := by
  obtain ⟨g1, g2, g3, g4, g5, g6, g7, g8, g9⟩ := hL
  obtain ⟨q1, q2, q3, q4, q5, mid, m0, m1, m2, m3, m4, m5, m6⟩ := g9 c hc.1 hc.2
  generalize rd M (rd M ob 2) c = fr at *
  generalize rd M (rd M ob 2) (c + 1) = to at *
  refine C_X0_holds (B_X0_holds_0 (by omega) hS ?_)
  obtain ⟨m, hg, hsv⟩ := m5 F hF [] (fun x hx => by cases hx)
  rw [List.length_nil, Nat.zero_add] at hg
  refine L_holds (M := M) (F := F) (f := rd M (rd M ob 3)) (last := mid) g5 (fun k => rfl) m4 ⟨by omega, m3⟩ m2 hF hd (D := 50) (by decide) ?_ ?_ ?_ m fr [] M fr hg Fr.rf hS hset trivial (fun x hx => by cases hx) m0 (Int.le_refl _)
  · intro M1 S1 hS1 f1 hSh1 hst1 hsm1 sk s0 s1
    cases hsum : L.2.2.1 c F with
    | none => rw [hsum] at hS1; cases hS1
    | some x =>
      rw [hsum] at hS1
      cases hS1
      have sx := hsv x hsum
      have hx0 : rd M1 24 0 = x := hst1.1
      rcases m6 with ⟨e, et⟩ | ⟨e, et⟩
      · subst e
        refine B_X0_holds_9 (by omega) hSh1 ⟨⟨by omega, by omega⟩, ⟨by omega, by omega⟩, fun _ => ⟨⟨by simp, by simp⟩, fun _ => ?_, fun w => absurd (by simp) w⟩, fun w => by omega⟩
        refine (h M1 f1 hSh1).2 x ?_ hx0 sx
        unfold hlds; rw [et]; dsimp only; rw [if_neg (by decide), hsum]
      · obtain ⟨m', hg', htv⟩ := et F hF [x] (smallL_1 sx)
        have ex : ∀ k, rd M1 (rd M ob 3) k = rd M (rd M ob 3) k := fun k => f1.2.2 _ _ (by unfold KB; omega)
        refine L_holds (M := M1) (F := F) (f := rd M (rd M ob 3)) (last := to) g5 ex (fun k k0 k1 => (m4 k k0 k1).tr (Int.le_of_eq f1.1.symm) (fun b _ _ => f1.2.1 b)) ⟨by omega, m3⟩ (Int.le_refl _) hF hd (D := [x].length + 50) (by simp) ?_ ?_ ?_ m' mid [x] M1 sk hg' Fr.rf hSh1 (fun i i0 i1 => by rw [f1.2.2 _ _ (by unfold KB; omega)]; exact hset i i0 i1) hst1 hsm1 s0 s1
        · intro M2 S2 hS2 f2 hSh2 hst2 hsm2 sk2 s02 s12
          cases htest : L.2.2.2 c F with
          | none => rw [htest] at hS2; cases hS2
          | some t =>
            rw [htest] at hS2
            cases hS2
            have ht1 : rd M2 24 1 = t := hst2.1
            have hx2 : rd M2 24 0 = x := hst2.2.1
            have st := htv t htest
            refine B_X0_holds_9 (by omega) hSh2 ⟨⟨by omega, by omega⟩, ⟨by omega, by omega⟩, fun _ => ⟨⟨by simp, by simp⟩, fun w => absurd w (by simp), fun _ => ⟨fun w => absurd (by simp) w, fun _ => ⟨by rw [ht1]; exact ⟨by have := st.1; omega, by have := st.2; omega⟩, ?_⟩⟩⟩, fun w => by omega⟩
            rw [ht1]
            by_cases z : t = 0
            · rw [if_neg (by simp [z])]
              refine (h M2 (f1.tr f2) hSh2).1 ?_
              unfold hlds; rw [htest]; dsimp only; rw [if_pos z]
            · rw [if_pos z]
              refine (h M2 (f1.tr f2) hSh2).2 x ?_ hx2 sx
              unfold hlds; rw [htest]; dsimp only; rw [if_neg z, hsum]
        · intro hn M2 f2 hSh2
          cases htest : L.2.2.2 c F with
          | none => refine (h M2 (f1.tr f2) hSh2).1 ?_; unfold hlds; rw [htest]
          | some t => rw [htest] at hn; cases hn
        · intro k' S' e'
          cases htest : L.2.2.2 c F with
          | none => rw [htest] at e'; cases e'
          | some t => rw [htest] at e'; cases e'; rfl
  · intro hn M1 f1 hSh1
    cases hsum : L.2.2.1 c F with
    | none =>
      refine (h M1 f1 hSh1).1 ?_
      unfold hlds
      rw [hsum]
      cases L.2.2.2 c F with
      | none => rfl
      | some t => dsimp only; split <;> rfl
    | some x => rw [hsum] at hn; cases hn
  · intro k' S' e'
    cases hsum : L.2.2.1 c F with
    | none => rw [hsum] at e'; cases e'
    | some x => rw [hsum] at e'; cases e'; rfl
theorem S_X4_lawInForce {r : Int → Int} (hS : Sh M) (hH : HR M r) (hV : RS r) (hd : 1 ≤ d) (h : Q (vA (if r 2 = -1 then -1 else rd M 9 (r 2))) M) : C G Y_X4_lawInForce d 0 0 [vA 1] M Q := by
  have e9 := hH.2.2.2.2.1
  have e10 := hH.2.2.2.2.2.1
  have r2 : -1 ≤ r 2 ∧ r 2 < r 1 ∧ r 1 ≤ 6 := ⟨hV.2.2.2.2.2.2.2.2.2.2.2.2.1, hV.2.2.2.2.2.2.2.2.2.2.2.2.2.1, hV.2.2.2.2.2.2.2.2.2.2.2.1⟩
  refine C_X4_lawInForce (B_X4_lawInForce_0 hd hS ?_)
  rw [e9, e10]
  refine ⟨⟨by omega, by omega⟩, ⟨by omega, by omega⟩, fun q => ?_, fun q => ⟨by omega, by omega, ?_⟩⟩
  · rw [if_pos (by omega)] at h; exact h
  · rw [if_neg (by omega)] at h; exact h
theorem S_X0_tells {F r : Int → Int} {hd' : Int} {sm : Int → LSm} (hS : Sh M) (hH : HR M r) (hV : RS r) (hL : CLaws M r sm) (hset : ∀ i : Int, 1 ≤ i → i < 8 → rd M 23 (i - 1) = F i) (hF : FR F) (hh : hd' = 0 ∨ hd' = 1) (hd : 4 ≤ d)
    (h : ∀ M', Fr KB M M' → Sh M' → Q (vI (askV r sm F hd')) M') : C G Y_X0_tells d 0 0 [vA 22, vI hd'] M Q := by
  have r2 : -1 ≤ r 2 ∧ r 2 < r 1 ∧ r 1 ≤ 6 := ⟨hV.2.2.2.2.2.2.2.2.2.2.2.2.1, hV.2.2.2.2.2.2.2.2.2.2.2.2.2.1, hV.2.2.2.2.2.2.2.2.2.2.2.1⟩
  refine C_X0_tells (B_X0_tells_0 (by omega) hS ?_)
  refine S_X4_lawInForce hS hH hV (by omega) ⟨hS, ⟨by omega, by omega⟩, fun v8 e8 => ⟨fun q => ?_, fun q => ?_⟩⟩
  · have hr : r 2 = -1 := by
      by_cases z : r 2 = -1
      · exact z
      · rw [if_neg z] at q
        have := (hL (r 2) (by omega) (by omega)).1
        omega
    have := h M Fr.rf hS
    unfold askV at this
    rw [if_pos hr] at this
    rcases hh with e | e <;> subst e <;> exact this
  · have hr : r 2 ≠ -1 := fun z => q (by rw [if_pos z])
    rw [if_neg hr]
    have hC := hL (r 2) (by omega) (by omega)
    generalize hob : rd M 9 (r 2) = ob at *
    generalize hLL : sm (r 2) = L at *
    have hask : askV r sm F hd' = if hd' = 0 then clampV (tlF L F 0 100 L.1.toNat) 100 else clampV (tlF L F hd' 0 L.1.toNat) 99 := by
      unfold askV askL; rw [if_neg hr, hLL]
    rw [hask] at h
    refine ⟨hC.2.1, fun v14 e14 => ?_⟩
    rw [hC.2.2.2.2.2.1] at e14
    have key : ∀ c : Nat, (c : Int) ≤ L.1 → ∀ Mk, Fr KB M Mk → Sh Mk → (∀ M', Fr KB M M' → Sh M' → Q (vI (if hd' = 0 then clampV (tlF L F 0 100 c) 100 else clampV (tlF L F hd' 0 c) 99)) M') → X G Y_X0_tells d 0 0 32 [vA 22, vI hd', vA ob, vI v8, vI ((c : Int) - 1)] [] Mk Q := by
      intro c
      induction c with
      | zero =>
        intro _ Mk fk hSk hq
        refine B_X0_tells_32 (by omega) hSk ⟨⟨by omega, by omega⟩, fun _ => ⟨⟨by omega, by omega⟩, ?_⟩, fun z => by omega⟩
        have := hq Mk fk hSk
        rcases hh with e | e <;> subst e <;> exact this
      | succ c ih =>
        intro hc Mk fk hSk hq
        have hCk : CLaw Mk ob L := hC.frK fk (fun a j z => by unfold KB at z; omega)
        have hck := hCk
        obtain ⟨g1, g2, g3, g4, g5, g6, g7, g8, g9⟩ := hck
        obtain ⟨q1, q2, q3, q4, q5, -⟩ := g9 c (by omega) (by omega)
        rw [show (((c + 1 : Nat) : Int) - 1) = c by omega]
        have nx : (∀ M', Fr KB M M' → Sh M' → Q (vI (if hd' = 0 then clampV (tlF L F 0 100 c) 100 else clampV (tlF L F hd' 0 c) 99)) M') → ∀ M2, Fr KB M M2 → Sh M2 → X G Y_X0_tells d 0 0 32 [vA 22, vI hd', vA ob, vI v8, vI ((c : Int) + (-1))] [] M2 Q := by
          intro hq2 M2 f2 hS2
          rw [show (c : Int) + (-1) = c - 1 by omega]
          exact ih (by omega) M2 f2 hS2 hq2
        refine B_X0_tells_32 (by omega) hSk ⟨⟨by omega, by omega⟩, fun z => by omega, fun _ => ⟨g2, q1, by rw [q4]; exact ⟨by omega, by omega⟩, ⟨by omega, by omega⟩, fun z => ?_, fun z => ⟨q2, q3, ?_⟩⟩⟩
        · rw [q4] at z
          refine nx (fun M' f' hS' => ?_) Mk fk hSk
          have := hq M' f' hS'
          rw [tlF, tlF, if_neg z] at this
          by_cases e0 : hd' = 0
          · subst e0; rw [if_neg z] at this; exact this
          · rw [if_neg e0] at this ⊢; exact this
        · rw [q4] at z
          refine S_X0_holds hSk hCk ⟨by omega, by omega⟩ (fun i i0 i1 => by rw [fk.2.2 _ _ (by unfold KB; omega)]; exact hset i i0 i1) hF (by omega) (fun M2 f2 hS2 => ⟨fun hn => ?_, fun x hx e0 sx => ?_⟩)
          · refine ⟨hS2, ⟨by decide, by decide⟩, fun _ => nx (fun M' f' hS' => ?_) M2 (fk.tr f2) hS2, fun w => absurd rfl w⟩
            have := hq M' f' hS'
            by_cases e0 : hd' = 0
            · subst e0; rw [if_pos rfl, tlF, if_pos z, hn] at this; exact this
            · rw [if_neg e0, tlF, if_pos z, hn] at this; rw [if_neg e0]; exact this
          · have s1 := sx.1
            have s2 := sx.2
            have hv8 : v8 = if hd' = 0 then 100 else 99 := by rcases hh with e | e <;> subst e <;> exact e8
            have b8 : v8 = 100 ∨ v8 = 99 := by rw [hv8]; split <;> simp
            refine ⟨hS2, ⟨by decide, by decide⟩, fun w => absurd w (by decide), fun _ => ?_⟩
            rw [e0]
            have hmin : (if x < v8 then x else v8) = x ∨ (if x < v8 then x else v8) = v8 := by split <;> simp
            refine ⟨⟨by omega, by omega⟩, ⟨by omega, by omega⟩, ⟨by omega, by omega⟩, ?_⟩
            have := hq M2 (fk.tr f2) hS2
            have efin : (if (if x < v8 then x else v8) < 0 then 0 else (if x < v8 then x else v8)) = clampV x v8 := by
              unfold clampV
              by_cases w : x < 0
              · rw [if_pos w, if_pos (show x < v8 by omega), if_pos w]
              · rw [if_neg w]
                by_cases w2 : v8 < x
                · rw [if_neg (show ¬ x < v8 by omega), if_pos w2, if_neg (by omega)]
                · rw [if_neg w2]
                  by_cases w3 : x < v8
                  · rw [if_pos w3, if_neg w]
                  · rw [if_neg w3]; rw [if_neg (by omega)]; omega
            rw [efin, hv8]
            by_cases e0 : hd' = 0
            · subst e0; rw [if_pos rfl, tlF, if_pos z, hx] at this; rw [if_pos rfl]; exact this
            · rw [if_neg e0, tlF, if_pos z, hx] at this; rw [if_neg e0]; exact this
    have := key L.1.toNat (by have := hC.2.2.2.2.2.2.1; omega) M Fr.rf hS h
    rw [show (((L.1.toNat : Nat) : Int) - 1) = v14 by have := hC.2.2.2.2.2.2.1; omega] at this
    exact this
def KC (a j : Int) : Prop := a = 23
theorem S_X0_about {so sc be z o mi pl : Int} (hS : Sh M) (hso : inR so) (hd : 1 ≤ d) (h : ∀ M', Fr KC M M' → Sh M' → (∀ i : Int, 1 ≤ i → i < 8 → rd M' 23 (i - 1) = fcts so sc be (z + o) (if so = 0 then z else o) mi pl i) → Q vU M') : C G Y_X0_about d 0 0 [vA 22, vI so, vI sc, vI be, vI z, vI o, vI mi, vI pl] M Q := by
  refine C_X0_about (B_X0_about_0 hd hS fun M1 e1 h1 M2 e2 h2 M3 e3 h3 M4 e4 h4 => ⟨hso, fun M5 e5 h5 M6 e6 h6 M7 e7 h7 => ?_⟩)
  refine h M7 ?_ h7 ?_
  · have k : ∀ j, KC 23 j := fun _ => rfl
    have f1 : Fr KC M M1 := by rw [e1]; exact Fr.rf.wr (k _)
    have f2 : Fr KC M M2 := by rw [e2]; exact f1.wr (k _)
    have f3 : Fr KC M M3 := by rw [e3]; exact f2.wr (k _)
    have f4 : Fr KC M M4 := by rw [e4]; exact f3.wr (k _)
    have f5 : Fr KC M M5 := by rw [e5]; exact f4.wr (k _)
    have f6 : Fr KC M M6 := by rw [e6]; exact f5.wr (k _)
    rw [e7]; exact f6.wr (k _)
  · intro i i0 i1
    have : i = 1 ∨ i = 2 ∨ i = 3 ∨ i = 4 ∨ i = 5 ∨ i = 6 ∨ i = 7 := by omega
    rw [e7, e6, e5, e4, e3, e2, e1]
    by_cases q : so = 0
    · rcases this with rfl | rfl | rfl | rfl | rfl | rfl | rfl <;> simp [rd_wr, fcts, q]
    · rcases this with rfl | rfl | rfl | rfl | rfl | rfl | rfl <;> simp [rd_wr, fcts, q]
end AC
