section U1
variable {G : GG} {y : YY} {d k n pc pc2 pc3 : Nat} {xs xs' st rest : List PV} {M : MM} {Q : PV → MM → Prop}
theorem x_nmI {a : Int} (h : ∀ v : Int, v = a → X G y d k n pc xs (vI v :: st) M Q) : X G y d k n pc xs (vI a :: st) M Q := h a rfl
theorem x_nmL {a : Int} (h : ∀ v : Int, v = a → X G y d k n pc xs (vL v :: st) M Q) : X G y d k n pc xs (vL a :: st) M Q := h a rfl
theorem x_nmA {a : Int} (h : ∀ v : Int, v = a → X G y d k n pc xs (vA v :: st) M Q) : X G y d k n pc xs (vA a :: st) M Q := h a rfl
theorem x_nmM (h : ∀ M' : MM, M' = M → X G y d k n pc xs st M' Q) : X G y d k n pc xs st M Q := h M rfl
theorem kI {P : Int → MM → Prop} (h : ∀ (r : Int) (M' : MM), P r M' → X G y d k n pc xs (vI r :: rest) M' Q) : ∀ (v : PV) (M' : MM), rI P v M' → X G y d k n pc xs (if isU v then rest else v :: rest) M' Q := fun v M' q => by
  rcases v with a | a | a | a
  · exact h a M' q
  · exact q.elim
  · exact q.elim
  · exact q.elim
theorem kL' {P : Int → MM → Prop} (h : ∀ (r : Int) (M' : MM), P r M' → X G y d k n pc xs (vL r :: rest) M' Q) : ∀ (v : PV) (M' : MM), rL P v M' → X G y d k n pc xs (if isU v then rest else v :: rest) M' Q := fun v M' q => by
  rcases v with a | a | a | a
  · exact q.elim
  · exact h a M' q
  · exact q.elim
  · exact q.elim
theorem kA {P : Int → MM → Prop} (h : ∀ (r : Int) (M' : MM), P r M' → X G y d k n pc xs (vA r :: rest) M' Q) : ∀ (v : PV) (M' : MM), rA P v M' → X G y d k n pc xs (if isU v then rest else v :: rest) M' Q := fun v M' q => by
  rcases v with a | a | a | a
  · exact q.elim
  · exact q.elim
  · exact h a M' q
  · exact q.elim
theorem kU {P : MM → Prop} (h : ∀ (M' : MM), P M' → X G y d k n pc xs rest M' Q) : ∀ (v : PV) (M' : MM), rU P v M' → X G y d k n pc xs (if isU v then rest else v :: rest) M' Q := fun v M' q => by
  rcases v with a | a | a | a
  · exact q.elim
  · exact q.elim
  · exact q.elim
  · exact h M' q
theorem x_if_eqB {p : Prop} [Decidable p] {off : Int} {tgt : Nat} (hd : decode y.2.1 pc = .ok (.ifCond .eq off, 3)) (ht : (pc : Int) + off = (tgt : Int)) (kk : (¬ p → X G y d k n tgt xs st M Q) ∧ (p → X G y d k n (pc + 3) xs st M Q)) : X G y d k n pc xs (vI (if p then 1 else 0) :: st) M Q := by
  by_cases hp : p
  · rw [if_pos hp]; exact x_if_eq hd ht ⟨by decide, by decide⟩ ⟨fun h => absurd h (by decide), fun _ => kk.2 hp⟩
  · rw [if_neg hp]; exact x_if_eq hd ht ⟨by decide, by decide⟩ ⟨fun _ => kk.1 hp, fun h => absurd rfl h⟩
theorem x_if_neB {p : Prop} [Decidable p] {off : Int} {tgt : Nat} (hd : decode y.2.1 pc = .ok (.ifCond .ne off, 3)) (ht : (pc : Int) + off = (tgt : Int)) (kk : (p → X G y d k n tgt xs st M Q) ∧ (¬ p → X G y d k n (pc + 3) xs st M Q)) : X G y d k n pc xs (vI (if p then 1 else 0) :: st) M Q := by
  by_cases hp : p
  · rw [if_pos hp]; exact x_if_ne hd ht ⟨by decide, by decide⟩ ⟨fun _ => kk.1 hp, fun h => absurd (by decide) h⟩
  · rw [if_neg hp]; exact x_if_ne hd ht ⟨by decide, by decide⟩ ⟨fun h => absurd rfl h, fun _ => kk.2 hp⟩
theorem x_ldcw {i : Nat} {v : Int32} {a : Int} (hd : decode y.2.1 pc = .ok (.ldc_w i, 3)) (hw : Cond.constant y.1.cls i v ∈ lw_g) (ha : v = Int32.ofInt a) (kk : X G y d k n (pc + 3) xs (vI a :: st) M Q) : X G y d k n pc xs st M Q := by
  subst ha
  exact X.same (fun {p l e R s m args below meth c H locs cells slots Qm ls} hF _ _ _ w => by
    intro T hT XX
    obtain ⟨t, a1, b1⟩ := w T hT XX
    exact ⟨t, va_ldcwI XX hF.1 hF.2.2.2.2.1 (hF.2.2.2.2.2.1 _ hw) rfl (by rw [hF.2.1]; exact hd) t a1, b1⟩) kk
theorem nar_ref (G : GG) (t : FieldType) (r : Int) (h : (∃ c, t = .object c) ∨ ∃ c, t = .array c) : narrow t (tV G (vA r)) = tV G (vA r) := by
  rcases h with ⟨c, rfl⟩ | ⟨c, rfl⟩ <;> rfl
theorem fit_ref (G : GG) (t : FieldType) (r : Int) (h : (∃ c, t = .object c) ∨ ∃ c, t = .array c) : fits t (tV G (vA r)) = true := by
  show fits t (rfV G r) = true
  unfold rfV
  rcases h with ⟨c, rfl⟩ | ⟨c, rfl⟩ <;> split <;> rfl
theorem z_fit {a : Int} (h : a = 0 ∨ a = 1) : fits .boolean (.int (Int32.ofInt a)) = true := by rcases h with rfl | rfl <;> rfl
theorem x_acmp_ne {a b : Int} {off : Int} {tgt : Nat} (hd : decode y.2.1 pc = .ok (.if_acmp .ne off, 3)) (ht : (pc : Int) + off = (tgt : Int)) (ha : 0 ≤ a) (hb : 0 ≤ b) (kk : (a ≠ b → X G y d k n tgt xs st M Q) ∧ (¬ a ≠ b → X G y d k n (pc + 3) xs st M Q)) : X G y d k n pc xs (vA b :: vA a :: st) M Q := X.two (fun {p l e R s m args below meth c H locs cells slots Qm ls} hF w1 w2 => by
  have h := lv_acmp_ne (p := p) (l := l) (e := e) (R := R) (s := s) (m := m) (args := args) (below := below) (meth := meth) (c := c) (H := H) (locs := locs) (cells := cells) (slots := slots) (Q := Qm) (ls := ls) (rest := st.map (tV G)) (rx := some (gB G + a.toNat)) (ry := some (gB G + b.toNat)) hF.1 hF.2.1 hd ht
  show W p l e R s m args below meth c H locs cells slots Qm (F0 m pc ls (rfV G b :: rfV G a :: st.map (tV G)))
  rw [rfV_pos ha, rfV_pos hb]
  refine h ?_ ?_
  · intro q; exact w1 (fun z => q (by rw [z]))
  · intro q; exact w2 (fun z => z (by have := Option.some.inj q; omega))) kk
end U1
