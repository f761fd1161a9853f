/-! ===== what holds when both are made ===== -/
def r00 : Int → Int := upF (upF (upF (upF (upF (upF (fun _ => 0) 2 (-1)) 5 (-1)) 31 1) 34 1) 40 1) 42 120
def s00 : Int → Int := upF (fun _ => 0) 5 (-1)
def sm00 : Int → LSm := fun _ => (0, fun _ => 0, fun _ _ => none, fun _ _ => none)
def cAll (f g k : Int → Int) : List Cel := cl_X11 0 f g k ++ cl_X12 67
theorem r00_z {j : Int} (h2 : j ≠ 2) (h5 : j ≠ 5) (h31 : j ≠ 31) (h34 : j ≠ 34) (h40 : j ≠ 40) (h42 : j ≠ 42) : r00 j = 0 := by
  unfold r00 upF
  rw [if_neg h42, if_neg h40, if_neg h34, if_neg h31, if_neg h5, if_neg h2]
theorem s00_z {j : Int} (h5 : j ≠ 5) : s00 j = 0 := by unfold s00 upF; rw [if_neg h5]
theorem RS_00 : RS r00 := by
  refine ⟨by decide, by decide, fun s a b => ?_, fun s a b => ?_, by decide, by decide, by decide, by decide, by decide, by decide, by decide, by decide, by decide, by decide, by decide, by decide, fun s a b => ?_, fun s q a b c => ?_, by decide, by decide, by decide, by decide, by decide, fun s a b => ?_, fun s q a b c => ?_⟩
  · rw [r00_z (j := 10 + 3 * s) (by omega) (by omega) (by omega) (by omega) (by omega) (by omega), r00_z (j := 11 + 3 * s) (by omega) (by omega) (by omega) (by omega) (by omega) (by omega), r00_z (j := 12 + 3 * s) (by omega) (by omega) (by omega) (by omega) (by omega) (by omega)]
    decide
  · rcases (by omega : s = 0 ∨ s = 1) with e | e <;> subst e <;> decide
  · rw [show r00 3 = 0 from rfl] at b; omega
  · rw [show r00 3 = 0 from rfl] at c; omega
  · rw [show r00 4 = 0 from rfl] at b; omega
  · rw [show r00 4 = 0 from rfl] at c; omega
theorem cAll_shp (f g k : Int → Int) : (cAll f g k).map (fun c => ((c.1, c.2.1) : Nat × Int)) = shpL := rfl
set_option maxRecDepth 100000 in
theorem cAll_ref (f g k : Int → Int) : refL.map (fun p => ((cAll f g k).getD p.1.toNat dCe).2.2 p.2.1) = refL.map (fun p => p.2.2) := rfl
theorem map_mem {α β : Type} {f g : α → β} : ∀ {l : List α}, l.map f = l.map g → ∀ p ∈ l, f p = g p
  | [], _, p, hp => by cases hp
  | a :: l, h, p, hp => by
    simp only [List.map_cons, List.cons.injEq] at h
    rcases List.mem_cons.mp hp with e | e
    · rw [e]; exact h.1
    · exact map_mem h.2 p e
theorem map_getD {α β : Type} (F : α → β) (d : α) : ∀ (l : List α) (i : Nat), (l.map F).getD i (F d) = F (l.getD i d)
  | [], i => by simp
  | a :: l, 0 => rfl
  | a :: l, i + 1 => by have := map_getD F d l i; simpa using this
section I0
variable {M0 M : MM} {f g k : Int → Int}
theorem Sh_00 (h : MEM 0 M0 (cAll f g k) M) : Sh M := by
  refine ⟨by rw [h.1.2]; exact (by decide : (94 : Int) ≤ 0 + ((94 : Nat) : Int)), fun a a0 a1 => ?_, fun p hp => ?_⟩
  · have e := h.2.2 a.toNat (by show a.toNat < 94; omega)
    rw [show (0 : Int) + (a.toNat : Int) = a by omega] at e
    rw [e.1]
    have z := map_getD (fun c : Cel => ((c.1, c.2.1) : Nat × Int)) dCe (cAll f g k) a.toNat
    rw [cAll_shp] at z
    exact z.symm
  · have q := refL_lt p hp
    have q0 := (refL_ob p hp).1
    have e := h.2.2 p.1.toNat (by show p.1.toNat < 94; omega)
    rw [show (0 : Int) + (p.1.toNat : Int) = p.1 by omega] at e
    rw [e.2]
    exact map_mem (cAll_ref f g k) p hp
theorem INV_00 (h3 : TB3 f g k) (h : MEM 0 M0 (cAll f g k) M) : INV 0 M := by
  have hS := Sh_00 h
  have z : ∀ i : Nat, i < 94 → ((cAll f g k).getD i dCe).2.2 = (fun _ => 0) → ∀ j, rd M i j = 0 := fun i hi e j => by
    rw [h.r i (Int.zero_add _).symm hi, e]
  have e9 : ∀ j, rd M 9 j = -1 := fun j => h.r 9 rfl (Nat.le_of_ble_eq_true rfl)
  have e13 : ∀ j, rd M 13 j = -1 := fun j => h.r 13 rfl (Nat.le_of_ble_eq_true rfl)
  have hHR : HR M r00 := by
    refine ⟨h.r 1 rfl (Nat.le_of_ble_eq_true rfl), fun s a b => ?_, fun s a b => ?_, fun s a b => ?_, h.r 1 rfl (Nat.le_of_ble_eq_true rfl), h.r 1 rfl (Nat.le_of_ble_eq_true rfl), h.r 1 rfl (Nat.le_of_ble_eq_true rfl), fun s a b => ?_, h.r 1 rfl (Nat.le_of_ble_eq_true rfl), h.r 1 rfl (Nat.le_of_ble_eq_true rfl), fun w => absurd (show r00 5 = -1 from rfl) w, fun s a b => ?_⟩
    · rw [r00_z (j := 10 + 3 * s) (by omega) (by omega) (by omega) (by omega) (by omega) (by omega), r00_z (j := 11 + 3 * s) (by omega) (by omega) (by omega) (by omega) (by omega) (by omega), r00_z (j := 12 + 3 * s) (by omega) (by omega) (by omega) (by omega) (by omega) (by omega)]
      exact ⟨z 2 (by decide) rfl s, z 3 (by decide) rfl s, z 4 (by decide) rfl s⟩
    · rcases (by omega : s = 0 ∨ s = 1) with e | e <;> subst e
      · exact ⟨z 5 (by decide) rfl 0, h.r 6 rfl (Nat.le_of_ble_eq_true rfl), z 7 (by decide) rfl 0⟩
      · exact ⟨z 5 (by decide) rfl 1, h.r 6 rfl (Nat.le_of_ble_eq_true rfl), z 7 (by decide) rfl 1⟩
    · rcases (by omega : s = 0 ∨ s = 1 ∨ s = 2) with e | e | e <;> subst e
      · exact h.r 8 rfl (Nat.le_of_ble_eq_true rfl)
      · exact h.r 8 rfl (Nat.le_of_ble_eq_true rfl)
      · exact h.r 8 rfl (Nat.le_of_ble_eq_true rfl)
    · rw [r00_z (j := 45 + s) (by omega) (by omega) (by omega) (by omega) (by omega) (by omega)]
      exact z 10 (by decide) rfl s
    · rw [r00_z (j := 50 + s) (by omega) (by omega) (by omega) (by omega) (by omega) (by omega), r00_z (j := 55 + s) (by omega) (by omega) (by omega) (by omega) (by omega) (by omega)]
      exact ⟨z 12 (by decide) rfl s, z 11 (by decide) rfl (s + 1)⟩
  have r1 : r00 1 = 0 := rfl
  have hCI : CIn M r00 sm00 := by
    refine ⟨⟨hHR, RS_00, fun l l0 l1 => by rw [r1] at l1; omega⟩, fun i i0 i1 => ?_, Or.inr ⟨h.r 25 rfl (Nat.le_of_ble_eq_true rfl), fun p l s z' o _ _ _ _ _ _ _ _ => Or.inl (z 29 (by decide) rfl _)⟩⟩
    rw [show rd M 26 i = f i from h.r 26 rfl (Nat.le_of_ble_eq_true rfl), show rd M 27 i = g i from h.r 27 rfl (Nat.le_of_ble_eq_true rfl), show rd M 28 i = k i from h.r 28 rfl (Nat.le_of_ble_eq_true rfl)]
    exact h3 i i0 i1
  have e329 : rd M 32 9 = 1 := h.r 32 rfl (Nat.le_of_ble_eq_true rfl)
  have e449 : rd M 44 9 = 1 := h.r 44 rfl (Nat.le_of_ble_eq_true rfl)
  have e4410 : rd M 44 10 = 4 := h.r 44 rfl (Nat.le_of_ble_eq_true rfl)
  have e4411 : rd M 44 11 = 8 := h.r 44 rfl (Nat.le_of_ble_eq_true rfl)
  have z34 := z 34 (by decide) rfl
  have z46 := z 46 (by decide) rfl
  have f4 : rd M 39 4 = 0 := h.r 39 rfl (Nat.le_of_ble_eq_true rfl)
  have f7 : rd M 39 7 = 0 := h.r 39 rfl (Nat.le_of_ble_eq_true rfl)
  have f8 : rd M 39 8 = 0 := h.r 39 rfl (Nat.le_of_ble_eq_true rfl)
  have b32 : tB0 M 32 := ⟨by rw [e329]; decide, by rw [e329]; decide, fun i _ _ => by show 0 ≤ rd M 34 i ∧ rd M 34 i < _; rw [e329, show rd M 34 i = 0 from z34 i]; decide⟩
  have b44 : tB0 M 44 := ⟨by rw [e449]; decide, by rw [e449]; decide, fun i _ _ => by show 0 ≤ rd M 46 i ∧ rd M 46 i < _; rw [e449, show rd M 46 i = 0 from z46 i]; decide⟩
  have hPL : PL r00 sm00 M := by
    have nm : ∀ p l z' o : Int, ¬ tMk M 32 p l z' o := fun p l z' o w => by
      have w' : rd M 34 (slo p l z' o) / 8 = rd M 32 9 := w
      rw [e329, show rd M 34 (slo p l z' o) = 0 from z34 _] at w'
      exact absurd w' (by decide)
    refine ⟨hS, hCI, ⟨h.r 32 rfl (Nat.le_of_ble_eq_true rfl), h.r 32 rfl (Nat.le_of_ble_eq_true rfl)⟩, ⟨b32, fun p l z' o _ _ w => absurd w (nm _ _ _ _), fun p l z' o s a b _ _ _ w => absurd w (nm _ _ _ _)⟩, b44, by rw [e4410]; decide, by rw [e4411]; decide, Or.inl f4, Or.inl f7, Or.inl f8, fun w => by omega, fun w => by omega, fun w => by omega⟩
  refine ⟨r00, sm00, s00, (fun _ => 0), [], (fun _ => r00), (fun _ => sm00), ⟨hPL, ⟨z 14 (by decide) rfl, h.r 0 rfl (Nat.le_of_ble_eq_true rfl), h.r 0 rfl (Nat.le_of_ble_eq_true rfl), h.r 0 rfl (Nat.le_of_ble_eq_true rfl), h.r 0 rfl (Nat.le_of_ble_eq_true rfl), fun i i0 i1 => by rw [s00_z (by omega)]; exact z 15 (by decide) rfl i, z 20 (by decide) rfl 0⟩, ⟨by rw [e329]; decide, by rw [e449]; decide⟩, ⟨h.r 59 rfl (Nat.le_of_ble_eq_true rfl), fun i hi => absurd hi (Nat.not_lt_zero _)⟩, ⟨fun q _ _ => Or.inl (e9 q), fun k' _ => Or.inl (e13 k'), fun w => absurd (e13 0) w⟩, fun k' hk => Or.inl ⟨s00_z (by omega), e13 k'⟩⟩, ?_⟩
  refine ⟨hS, funext fun j => h.r 69 rfl (Nat.le_of_ble_eq_true rfl), ⟨RS_00, fun l l0 l1 => by rw [r1] at l1; omega⟩, ⟨z 72 (by decide) rfl, h.r 67 rfl (Nat.le_of_ble_eq_true rfl), h.r 67 rfl (Nat.le_of_ble_eq_true rfl), h.r 67 rfl (Nat.le_of_ble_eq_true rfl), h.r 67 rfl (Nat.le_of_ble_eq_true rfl), z 68 (by decide) rfl 1, z 68 (by decide) rfl 2, z 68 (by decide) rfl 3, z 68 (by decide) rfl 5, z 68 (by decide) rfl 6⟩, ⟨h.r 67 rfl (Nat.le_of_ble_eq_true rfl), fun k' k0 k1 => ?_⟩, ⟨Or.inl ⟨h.r 67 rfl (Nat.le_of_ble_eq_true rfl), rfl⟩, by decide, fun i hi => absurd hi (Nat.not_lt_zero _)⟩, fun k' hk => ?_, fun j hj => r00_z (by omega) (by omega) (by omega) (by omega) (by omega) (by omega), ⟨by decide, by decide⟩, fun i => ⟨Int.le_refl _, (by decide : (0 : Int) ≤ 255)⟩, fun k' hk => Or.inl (s00_z (by omega))⟩
  · rw [show rd M 78 k' = _ from h.r 78 rfl (Nat.le_of_ble_eq_true rfl)]
    exact finI (P := fun x => ((cl_X12 67).getD 11 dCe).2.2 x = gt wcdL (x + 6)) 7 (by decide +kernel) k0 k1
  · have e : s00 (20 + k') = 0 := s00_z (by omega)
    rw [e]
    exact ⟨z 71 (by decide) rfl k', fun w => absurd w (by decide)⟩
end I0
