/-! ===== the class lists all rows ===== -/
def LSt (M : MM) (ps : List (List Int)) : Prop := rd M 39 6 = ps.length ∧ ∀ i : Nat, i < ps.length → rd M 40 i = pck (ps.getD i [])
theorem pop_def (x : Int) : pop x = bt x 0 + bt x 1 + bt x 2 + bt x 3 + bt x 4 := by
  simp [pop, sumTo]
theorem pop_dis {c p : Int} (hc : 0 ≤ c ∧ c < 32) (hp : 0 ≤ p ∧ p < 32) (h : ∀ s : Int, 0 ≤ s → s < 5 → bt c s = 1 → bt p s = 0) : pop c + pop p ≤ 5 := by
  rw [pop_def, pop_def]
  have q : ∀ s : Int, 0 ≤ s → s < 5 → bt c s + bt p s ≤ 1 := fun s s0 s1 => by
    rcases bt01 hc.1 hc.2 s0 s1 with w | w
    · rcases bt01 hp.1 hp.2 s0 s1 with y | y <;> omega
    · have := h s s0 s1 w; omega
  have q0 := q 0 (by decide) (by decide)
  have q1 := q 1 (by decide) (by decide)
  have q2 := q 2 (by decide) (by decide)
  have q3 := q 3 (by decide) (by decide)
  have q4 := q 4 (by decide) (by decide)
  omega
def fct : Nat → Nat
  | 0 => 1
  | n + 1 => (n + 1) * fct n
theorem fct_pos : ∀ n, 1 ≤ fct n
  | 0 => Nat.le_refl 1
  | n + 1 => by
    have := fct_pos n
    have h : 1 * 1 ≤ (n + 1) * fct n := Nat.mul_le_mul (by omega) this
    exact h
theorem undF_len2 {can : Int} {sub : Int → List (List Int)} {B : Nat} (hc : 0 ≤ can ∧ can < 32) (h : ∀ s : Int, 0 ≤ s → s < 5 → bt can s = 1 → (sub s).length ≤ B) : (undF can sub 5 0).length ≤ (pop can).toNat * B := by
  have q : ∀ s : Int, 0 ≤ s → s < 5 → (if bt can s = 1 then sub s else []).length ≤ (bt can s).toNat * B := fun s s0 s1 => by
    rcases bt01 hc.1 hc.2 s0 s1 with w | w
    · rw [w]; simp
    · rw [if_pos w, w]
      have := h s s0 s1 w
      simpa using this
  have q0 := q 0 (by decide) (by decide)
  have q1 := q 1 (by decide) (by decide)
  have q2 := q 2 (by decide) (by decide)
  have q3 := q 3 (by decide) (by decide)
  have q4 := q 4 (by decide) (by decide)
  have b0 := bt01 hc.1 hc.2 (s := 0) (by decide) (by decide)
  have b1 := bt01 hc.1 hc.2 (s := 1) (by decide) (by decide)
  have b2 := bt01 hc.1 hc.2 (s := 2) (by decide) (by decide)
  have b3 := bt01 hc.1 hc.2 (s := 3) (by decide) (by decide)
  have b4 := bt01 hc.1 hc.2 (s := 4) (by decide) (by decide)
  have e : (pop can).toNat = (bt can 0).toNat + (bt can 1).toNat + (bt can 2).toNat + (bt can 3).toNat + (bt can 4).toNat := by rw [pop_def]; omega
  rw [e, Nat.add_mul, Nat.add_mul, Nat.add_mul, Nat.add_mul]
  have eu : (undF can sub 5 0).length = (if bt can 0 = 1 then sub 0 else []).length + ((if bt can 1 = 1 then sub 1 else []).length + ((if bt can 2 = 1 then sub 2 else []).length + ((if bt can 3 = 1 then sub 3 else []).length + ((if bt can 4 = 1 then sub 4 else []).length + 0)))) := by
    simp only [undF, List.length_append]
    rfl
  rw [eu]
  omega
theorem rws_fct {r : Int → Int} (hV : RS r) : ∀ (n : Nat) (t : List Int), ndOk r t → t.length + n = 5 → (rws r n (npl t) t).length ≤ fct n
  | 0, t, _, _ => by simp [rws, fct]
  | n + 1, t, h, hl => by
    have hp := pfx_ok h.1 t.length (by omega)
    have hcb := canB_ok hV (npl t)
    rw [rws]
    split
    · have := fct_pos (n + 1)
      simpa using this
    · have hd := pop_dis ⟨hcb.1, hcb.2.1⟩ ⟨hp.1, hp.2.1⟩ (fun s s0 s1 w => (canB_s hV ⟨hp.1, hp.2.1⟩ ⟨s0, s1⟩ w).2)
      have := undF_len2 (can := canB r (npl t)) (sub := fun s => rws r n (sb (npl t) s) (t ++ [s])) (B := fct n) ⟨hcb.1, hcb.2.1⟩ (fun s s0 s1 w => by
        rw [← npl_app]
        exact rws_fct hV n (t ++ [s]) (ndOk_app hV h ⟨s0, s1⟩ w) (by simp; omega))
      refine Nat.le_trans this ?_
      rw [fct]
      have hpp := pop_le hcb.1 hcb.2.1
      have h5 : pop (npl t) = t.length := hp.2.2.1
      have hd' : pop (canB r (npl t)) + pop (npl t) ≤ 5 := hd
      exact Nat.mul_le_mul_right _ (by omega)
theorem allR_len {r : Int → Int} (hV : RS r) : (allR r).length ≤ 120 := rws_fct hV 5 [] (nd0 r) rfl
theorem undF_nil {can : Int} {sub : Int → List (List Int)} : ∀ (m : Nat) (s : Int), (∀ i : Int, s ≤ i → i < s + m → bt can i ≠ 1) → undF can sub m s = []
  | 0, _, _ => rfl
  | m + 1, s, h => by
    rw [undF, if_neg (h s (by omega) (by omega)), undF_nil m (s + 1) (fun i i0 i1 => h i (by omega) (by omega))]; rfl
def KLs (a j : Int) : Prop := a = 40 ∨ (a = 39 ∧ j = 6)
section LI
variable {G : GG} {r : Int → Int}
theorem LSt_add {M M1 M2 : MM} {ps : List (List Int)} {t : List Int} (h : LSt M ps) (e1 : M1 = wr M 40 (rd M 39 6) (pck t)) (e2 : M2 = wr M1 39 6 (rd M1 39 6 + 1)) : LSt M2 (ps ++ [t]) := by
  have a : rd M1 39 6 = rd M 39 6 := by rw [e1, rd_wr, if_neg (by omega)]
  refine ⟨?_, fun i hi => ?_⟩
  · rw [e2, rd_wr, if_pos ⟨rfl, rfl⟩, a, h.1]; simp
  · rw [e2, rd_wr, if_neg (by omega), e1, rd_wr, h.1]
    simp at hi
    by_cases q : i = ps.length
    · subst q; rw [if_pos ⟨rfl, rfl⟩]; simp
    · rw [if_neg (by omega), h.2 i (by omega)]
      congr 1
      rw [List.getD_eq_getElem?_getD, List.getD_eq_getElem?_getD, List.getElem?_append_left (by omega)]
theorem T_X6_list (hV : RS r) : ∀ (n : Nat) (t : List Int) (ps : List (List Int)) (M : MM) (Q : PV → MM → Prop) (d : Nat), ndOk r t → t.length + n = 5 → n + 5 ≤ d → Sh M → HR M r → LSt M ps → (ps ++ rws r n (npl t) t).length ≤ 120 →
    (∀ M', Fr KLs M M' → Sh M' → LSt M' (ps ++ rws r n (npl t) t) → Q vU M') → C G Y_X6_list d 0 0 [vA 39, vI (npl t), vI (rpk t), vI t.length] M Q := by
  intro n
  induction n with
  | zero =>
    intro t ps M Q d hnd hl hd hS hH hL hle h
    have hlen : t.length = 5 := by omega
    have h1 := hL.1
    have hk := rpk_lt t (rowf_mem hnd.1.1)
    have h8 := (p8 t.length (by omega)).2.1
    simp only [rws, List.length_append, List.length_cons, List.length_nil] at hle
    refine C_X6_list (B_X6_list_0 (r := r) (by omega) hS ⟨⟨by omega, by omega⟩, fun q => by omega, fun _ => ⟨⟨by omega, by omega⟩, fun q => by omega, fun _ => ⟨by omega, by omega, fun M1 e1 hS1 M2 e2 hS2 => ?_⟩⟩⟩)
    rw [or15 ⟨by omega, by omega⟩ ⟨hk.1, by omega⟩] at e1
    refine h M2 ?_ hS2 (LSt_add hL e1 e2)
    rw [e2, e1]; exact (Fr.rf.wr (Or.inl rfl)).wr (Or.inr ⟨rfl, rfl⟩)
  | succ n ih =>
    intro t ps M Q d hnd hl hd hS hH hL hle h
    have hp := pfx_ok hnd.1 t.length (by omega)
    have hcb := canB_ok hV (npl t)
    have h1 := hL.1
    have n0 := hV.1
    have n5 := hV.2.1
    have hmem := rowf_mem hnd.1.1
    have hk := rpk_lt t hmem
    have h8 := (p8 t.length (by omega)).2.1
    refine C_X6_list (B_X6_list_0 (r := r) (by omega) hS ⟨⟨by omega, by omega⟩, fun _ => ⟨hH, hV, ⟨hp.1, hp.2.1⟩, fun v5 e5 => ?_⟩, fun q => by omega⟩)
    rw [e5]
    refine ⟨⟨by omega, by omega⟩, fun q => ?_, fun q => ?_⟩
    · rw [rws, if_neg q] at hle h
      have key : ∀ (m : Nat) (s : Int), s + m = 5 → 0 ≤ s → ∀ (Mk : MM) (ps' : List (List Int)), Fr KLs M Mk → Sh Mk → LSt Mk ps' → ps' ++ undF (canB r (npl t)) (fun s => rws r n (sb (npl t) s) (t ++ [s])) m s = ps ++ undF (canB r (npl t)) (fun s => rws r n (sb (npl t) s) (t ++ [s])) 5 0 → X G Y_X6_list d 0 0 62 [vA 39, vI (npl t), vI (rpk t), vI t.length, vI (canB r (npl t)), vI s] [] Mk Q := by
        intro m
        induction m with
        | zero =>
          intro s es s0 Mk ps' fk hSk hLk ek
          have e0 : rd Mk 1 0 = r 0 := by rw [fk.2.2 _ _ (by unfold KLs; omega)]; exact hH.1
          refine B_X6_list_62 (by omega) hSk ?_
          rw [e0]
          refine ⟨⟨by omega, by omega⟩, ⟨by omega, by omega⟩, fun _ => h Mk fk hSk ?_, fun w => by omega⟩
          rw [← ek]; simp only [undF, List.append_nil]; exact hLk
        | succ m ihm =>
          intro s es s0 Mk ps' fk hSk hLk ek
          have e0 : rd Mk 1 0 = r 0 := by rw [fk.2.2 _ _ (by unfold KLs; omega)]; exact hH.1
          refine B_X6_list_62 (by omega) hSk ?_
          rw [e0]
          refine ⟨⟨by omega, by omega⟩, ⟨by omega, by omega⟩, fun w => h Mk fk hSk ?_, fun w => ⟨fun w2 => ?_, fun w2 => ?_⟩⟩
          · rw [undF_nil (m + 1) s (fun i i0 i1 y => by have := canB_s hV ⟨hp.1, hp.2.1⟩ ⟨show 0 ≤ i by omega, by omega⟩ y; omega), List.append_nil] at ek
            rw [← ek]; exact hLk
          · refine ihm (s + 1) (by omega) (by omega) Mk ps' fk hSk hLk ?_
            rw [← ek, undF, if_neg (show ¬ bt (canB r (npl t)) s = 1 from w2)]; rfl
          · have w2' : bt (canB r (npl t)) s = 1 := w2
            have e2 : iOr (rpk t) (iShl s (3 * (t.length : Int))) = rpk (t ++ [s]) := by
              rw [or3 t.length (by omega) ⟨s0, by omega⟩ hk, rpk_app]
            have e3 : ((t.length : Int) + 1) = ((t ++ [s]).length : Int) := by simp
            have e1 : iOr (npl t) (iShl 1 s) = npl (t ++ [s]) := npl_app.symm
            rw [e1, e2, e3]
            have eu : undF (canB r (npl t)) (fun s => rws r n (sb (npl t) s) (t ++ [s])) (m + 1) s = rws r n (npl (t ++ [s])) (t ++ [s]) ++ undF (canB r (npl t)) (fun s => rws r n (sb (npl t) s) (t ++ [s])) m (s + 1) := by
              rw [undF, if_pos w2', npl_app]
            rw [eu, ← List.append_assoc] at ek
            have hHk : HR Mk r := hH.fr (fun a j y => fk.2.2 _ _ (by unfold KH at y; unfold KLs; omega))
            refine ih (t ++ [s]) ps' Mk _ (d - 1) (ndOk_app hV hnd ⟨s0, by omega⟩ w2') (by simp; omega) (by omega) hSk hHk hLk ?_ (fun M3 f3 hS3 hL3 => ?_)
            · have := congrArg List.length ek
              rw [List.length_append] at this
              omega
            · show Sh M3 ∧ _
              exact ⟨hS3, ihm (s + 1) (by omega) (by omega) M3 _ (fk.tr f3) hS3 hL3 ek⟩
      exact key 5 0 (by decide) (by decide) M ps Fr.rf hS hL rfl
    · rw [rws, if_pos q] at hle h
      simp only [List.length_append, List.length_cons, List.length_nil] at hle
      refine ⟨⟨by omega, by omega⟩, fun w => by omega, fun _ => ⟨by omega, by omega, fun M1 e1 hS1 M2 e2 hS2 => ?_⟩⟩
      rw [or15 ⟨by omega, by omega⟩ ⟨hk.1, by omega⟩] at e1
      refine h M2 ?_ hS2 (LSt_add hL e1 e2)
      rw [e2, e1]; exact (Fr.rf.wr (Or.inl rfl)).wr (Or.inr ⟨rfl, rfl⟩)
end LI
