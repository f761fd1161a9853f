/-! ===== laws: one operation ===== -/
def rckV (op a b : Int) : Int := if op = 20 then a + b else if op = 21 then a - b else if op = 22 then a * b else if op = 23 then (if b = 0 then 0 else Int.tdiv a b) else if op = 24 then (if b ≤ a then 0 else 1) else if op = 25 then (if a ≤ b then 0 else 1) else (if a ≠ b then 0 else 1)
def rckM (M : MM) (op b : Int) : MM := if op = 23 then wr M 67 29 (if b = 0 then 1 else 0) else M
section RK
variable {G : GG} {d : Nat} {M : MM} {Q : PV → MM → Prop}
theorem sRck {op b : Int} (hS : Sh M) : Sh (rckM M op b) := by
  unfold rckM
  split
  · exact sW_67_29 hS
  · exact hS
theorem S_X12_reckon {op a b : Int} (hS : Sh M) (h1 : inR op) (h2 : inL a) (h3 : inL b) (hd : 1 ≤ d) (h : Q (vL (rckV op a b)) (rckM M op b)) : C G Y_X12_reckon d 0 0 [vA 67, vI op, vL a, vL b] M Q := by
  refine C_X12_reckon (B_X12_reckon_0 hd hS ⟨h1, fun c => ⟨h2, h3, ?_⟩, fun c => ?_, fun c => ?_, fun c => ?_, fun c => ⟨h3, fun M1 e1 _ => ?_⟩, fun c => ⟨h2, h3, ?_⟩, fun c => ⟨h2, h3, ?_⟩⟩)
  · unfold rckV rckM at h
    simp only [show op ≠ 20 by omega, show op ≠ 21 by omega, show op ≠ 22 by omega, show op ≠ 23 by omega, show op ≠ 24 by omega, show op ≠ 25 by omega, if_false] at h
    exact h
  · subst c; exact h
  · subst c; exact h
  · subst c; exact h
  · subst c
    have e2 : rd M1 67 29 = if b = 0 then 1 else 0 := by rw [e1, rd_wr, if_pos ⟨rfl, rfl⟩]
    have hM : M1 = rckM M 23 b := e1
    by_cases z : b = 0
    · rw [if_pos z] at e2
      refine ⟨by rw [e2]; exact ⟨by decide, by decide⟩, fun q => by omega, fun q => ?_⟩
      rw [hM]
      unfold rckV at h
      simp only [z, if_true] at h ⊢
      exact h
    · rw [if_neg z] at e2
      refine ⟨by rw [e2]; exact ⟨by decide, by decide⟩, fun q => ⟨h2, z, ?_⟩, fun q => by omega⟩
      rw [hM]
      unfold rckV at h
      simp only [z, if_false] at h
      exact h
  · subst c; exact h
  · subst c; exact h
theorem S_X0_joined {o a b : Int} (h1 : inR o) (h2 : inL a) (h3 : inL b) (hd : 1 ≤ d) (h : Q (vL (rckV (o + 18) a b)) M) : C G Y_X0_joined d 0 0 [vI o, vL a, vL b] M Q := by
  refine C_X0_joined (B_X0_joined_0 hd ⟨h1, fun c => ⟨h2, h3, ?_⟩, fun c => ?_, fun c => ?_, fun c => ?_, fun c => ⟨h3, fun z => ⟨h2, z, ?_⟩, fun z => ?_⟩, fun c => ⟨h2, h3, ?_⟩, fun c => ⟨h2, h3, ?_⟩⟩)
  · unfold rckV at h
    simp only [show o + 18 ≠ 20 by omega, show o + 18 ≠ 21 by omega, show o + 18 ≠ 22 by omega, show o + 18 ≠ 23 by omega, show o + 18 ≠ 24 by omega, show o + 18 ≠ 25 by omega, if_false] at h
    exact h
  · subst c; exact h
  · subst c; exact h
  · subst c; exact h
  · subst c
    have h : Q (vL (if b = 0 then 0 else Int.tdiv a b)) M := h
    rw [if_neg z] at h; exact h
  · subst c
    have h : Q (vL (if b = 0 then 0 else Int.tdiv a b)) M := h
    rw [if_pos z] at h; exact h
  · subst c; exact h
  · subst c; exact h
end RK
