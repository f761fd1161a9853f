/-! ===== the constructors ===== -/
abbrev dvF (kd : Nat) : Int → Int := fun j => dV (fT kd j.toNat)
theorem MEM.nil' {k : Int} {M : MM} (h0 : 0 ≤ k) (h : mN M = k) : MEM k M [] M := by subst h; exact MEM.nil h0
def cl_X4 (n : Int) : List Cel := [(3, ((kN 3 : Nat) : Int), upF (upF (upF (upF (upF (upF (upF (upF (upF (upF (upF (upF (upF (upF (upF (upF (upF (dvF 3) 0 0) 1 (n + 1)) 2 (n + 2)) 3 (n + 3)) 4 (n + 4)) 5 (n + 5)) 6 (n + 6)) 7 (n + 7)) 8 (n + 8)) 9 0) 10 (-1)) 11 (n + 9)) 12 0) 13 0) 14 (n + 10)) 15 (n + 11)) 16 0), (20, 5, (fun _ => 0)), (20, 5, (fun _ => 0)), (20, 5, (fun _ => 0)), (20, 2, (fun _ => 0)), (20, 2, upF (upF ((fun _ => 0)) 0 1) 1 1), (20, 2, (fun _ => 0)), (20, 3, upF (upF (upF ((fun _ => 0)) 0 1) 1 0) 2 120), (24, 6, (fun _ => -1)), (20, 5, (fun _ => 0)), (20, 6, (fun _ => 0)), (20, 5, (fun _ => 0))]
theorem T_X4_init {G : GG} {d : Nat} {n : Int} {M0 M : MM} {Q : PV → MM → Prop} (hd : 1 ≤ d) (m0 : MEM n M0 [(3, ((kN 3 : Nat) : Int), dvF 3)] M) (h : ∀ M', MEM n M0 (cl_X4 n) M' → Q vU M') : C G Y_X4_init d 11 46 [vA n] M Q := by
  refine C_X4_init (B_X4_init_0 (by omega) ?_)
  have n0 := m0.1.1
  have hd1 : 0 ≤ d - 1 := by omega
  have q_M : mN M = n + 1 := m0.1.2
  refine ⟨n0, ?_⟩
  refine ⟨m0.o 0 (Int.add_zero n).symm (Nat.le_of_ble_eq_true rfl) rfl, ?_⟩
  intro M3 eM3
  have mM3 : MEM n M0 ([(3, ((kN 3 : Nat) : Int), upF (dvF 3) 0 0)]) M3 := m0.wr 0 eM3 (Int.add_zero n).symm rfl
  have q_M3 : mN M3 = n + 1 := mM3.1.2
  rw [q_M3]
  intro M4 eM4
  have mM4 : MEM n M0 ([(3, ((kN 3 : Nat) : Int), upF (dvF 3) 0 0), (20, 5, (fun _ => 0))]) M4 := mM3.al eM4 rfl
  have q_M4 : mN M4 = n + 2 := mM4.1.2
  refine ⟨mM4.o 0 (Int.add_zero n).symm (Nat.le_of_ble_eq_true rfl) rfl, ?_⟩
  intro M6 eM6
  have mM6 : MEM n M0 ([(3, ((kN 3 : Nat) : Int), upF (upF (dvF 3) 0 0) 1 (n + 1)), (20, 5, (fun _ => 0))]) M6 := mM4.wr 0 eM6 (Int.add_zero n).symm rfl
  have q_M6 : mN M6 = n + 2 := mM6.1.2
  rw [q_M6]
  intro M7 eM7
  have mM7 : MEM n M0 ([(3, ((kN 3 : Nat) : Int), upF (upF (dvF 3) 0 0) 1 (n + 1)), (20, 5, (fun _ => 0)), (20, 5, (fun _ => 0))]) M7 := mM6.al eM7 rfl
  have q_M7 : mN M7 = n + 3 := mM7.1.2
  refine ⟨mM7.o 0 (Int.add_zero n).symm (Nat.le_of_ble_eq_true rfl) rfl, ?_⟩
  intro M9 eM9
  have mM9 : MEM n M0 ([(3, ((kN 3 : Nat) : Int), upF (upF (upF (dvF 3) 0 0) 1 (n + 1)) 2 (n + 2)), (20, 5, (fun _ => 0)), (20, 5, (fun _ => 0))]) M9 := mM7.wr 0 eM9 (Int.add_zero n).symm rfl
  have q_M9 : mN M9 = n + 3 := mM9.1.2
  rw [q_M9]
  intro M10 eM10
  have mM10 : MEM n M0 ([(3, ((kN 3 : Nat) : Int), upF (upF (upF (dvF 3) 0 0) 1 (n + 1)) 2 (n + 2)), (20, 5, (fun _ => 0)), (20, 5, (fun _ => 0)), (20, 5, (fun _ => 0))]) M10 := mM9.al eM10 rfl
  have q_M10 : mN M10 = n + 4 := mM10.1.2
  refine ⟨mM10.o 0 (Int.add_zero n).symm (Nat.le_of_ble_eq_true rfl) rfl, ?_⟩
  intro M12 eM12
  have mM12 : MEM n M0 ([(3, ((kN 3 : Nat) : Int), upF (upF (upF (upF (dvF 3) 0 0) 1 (n + 1)) 2 (n + 2)) 3 (n + 3)), (20, 5, (fun _ => 0)), (20, 5, (fun _ => 0)), (20, 5, (fun _ => 0))]) M12 := mM10.wr 0 eM12 (Int.add_zero n).symm rfl
  have q_M12 : mN M12 = n + 4 := mM12.1.2
  rw [q_M12]
  intro M13 eM13
  have mM13 : MEM n M0 ([(3, ((kN 3 : Nat) : Int), upF (upF (upF (upF (dvF 3) 0 0) 1 (n + 1)) 2 (n + 2)) 3 (n + 3)), (20, 5, (fun _ => 0)), (20, 5, (fun _ => 0)), (20, 5, (fun _ => 0)), (20, 2, (fun _ => 0))]) M13 := mM12.al eM13 rfl
  have q_M13 : mN M13 = n + 5 := mM13.1.2
  refine ⟨mM13.o 0 (Int.add_zero n).symm (Nat.le_of_ble_eq_true rfl) rfl, ?_⟩
  intro M15 eM15
  have mM15 : MEM n M0 ([(3, ((kN 3 : Nat) : Int), upF (upF (upF (upF (upF (dvF 3) 0 0) 1 (n + 1)) 2 (n + 2)) 3 (n + 3)) 4 (n + 4)), (20, 5, (fun _ => 0)), (20, 5, (fun _ => 0)), (20, 5, (fun _ => 0)), (20, 2, (fun _ => 0))]) M15 := mM13.wr 0 eM15 (Int.add_zero n).symm rfl
  have q_M15 : mN M15 = n + 5 := mM15.1.2
  rw [q_M15]
  intro M16 eM16
  have mM16 : MEM n M0 ([(3, ((kN 3 : Nat) : Int), upF (upF (upF (upF (upF (dvF 3) 0 0) 1 (n + 1)) 2 (n + 2)) 3 (n + 3)) 4 (n + 4)), (20, 5, (fun _ => 0)), (20, 5, (fun _ => 0)), (20, 5, (fun _ => 0)), (20, 2, (fun _ => 0)), (20, 2, (fun _ => 0))]) M16 := mM15.al eM16 rfl
  have q_M16 : mN M16 = n + 6 := mM16.1.2
  refine ⟨mM16.a 5 rfl (Nat.le_of_ble_eq_true rfl) rfl (by decide) (show (0 : Int) < 2 by decide), ?_⟩
  intro M18 eM18
  have mM18 : MEM n M0 ([(3, ((kN 3 : Nat) : Int), upF (upF (upF (upF (upF (dvF 3) 0 0) 1 (n + 1)) 2 (n + 2)) 3 (n + 3)) 4 (n + 4)), (20, 5, (fun _ => 0)), (20, 5, (fun _ => 0)), (20, 5, (fun _ => 0)), (20, 2, (fun _ => 0)), (20, 2, upF ((fun _ => 0)) 0 1)]) M18 := mM16.wr 5 eM18 rfl rfl
  have q_M18 : mN M18 = n + 6 := mM18.1.2
  refine ⟨mM18.a 5 rfl (Nat.le_of_ble_eq_true rfl) rfl (by decide) (show (1 : Int) < 2 by decide), ?_⟩
  intro M20 eM20
  have mM20 : MEM n M0 ([(3, ((kN 3 : Nat) : Int), upF (upF (upF (upF (upF (dvF 3) 0 0) 1 (n + 1)) 2 (n + 2)) 3 (n + 3)) 4 (n + 4)), (20, 5, (fun _ => 0)), (20, 5, (fun _ => 0)), (20, 5, (fun _ => 0)), (20, 2, (fun _ => 0)), (20, 2, upF (upF ((fun _ => 0)) 0 1) 1 1)]) M20 := mM18.wr 5 eM20 rfl rfl
  have q_M20 : mN M20 = n + 6 := mM20.1.2
  refine ⟨mM20.o 0 (Int.add_zero n).symm (Nat.le_of_ble_eq_true rfl) rfl, ?_⟩
  intro M22 eM22
  have mM22 : MEM n M0 ([(3, ((kN 3 : Nat) : Int), upF (upF (upF (upF (upF (upF (dvF 3) 0 0) 1 (n + 1)) 2 (n + 2)) 3 (n + 3)) 4 (n + 4)) 5 (n + 5)), (20, 5, (fun _ => 0)), (20, 5, (fun _ => 0)), (20, 5, (fun _ => 0)), (20, 2, (fun _ => 0)), (20, 2, upF (upF ((fun _ => 0)) 0 1) 1 1)]) M22 := mM20.wr 0 eM22 (Int.add_zero n).symm rfl
  have q_M22 : mN M22 = n + 6 := mM22.1.2
  rw [q_M22]
  intro M23 eM23
  have mM23 : MEM n M0 ([(3, ((kN 3 : Nat) : Int), upF (upF (upF (upF (upF (upF (dvF 3) 0 0) 1 (n + 1)) 2 (n + 2)) 3 (n + 3)) 4 (n + 4)) 5 (n + 5)), (20, 5, (fun _ => 0)), (20, 5, (fun _ => 0)), (20, 5, (fun _ => 0)), (20, 2, (fun _ => 0)), (20, 2, upF (upF ((fun _ => 0)) 0 1) 1 1), (20, 2, (fun _ => 0))]) M23 := mM22.al eM23 rfl
  have q_M23 : mN M23 = n + 7 := mM23.1.2
  refine ⟨mM23.o 0 (Int.add_zero n).symm (Nat.le_of_ble_eq_true rfl) rfl, ?_⟩
  intro M25 eM25
  have mM25 : MEM n M0 ([(3, ((kN 3 : Nat) : Int), upF (upF (upF (upF (upF (upF (upF (dvF 3) 0 0) 1 (n + 1)) 2 (n + 2)) 3 (n + 3)) 4 (n + 4)) 5 (n + 5)) 6 (n + 6)), (20, 5, (fun _ => 0)), (20, 5, (fun _ => 0)), (20, 5, (fun _ => 0)), (20, 2, (fun _ => 0)), (20, 2, upF (upF ((fun _ => 0)) 0 1) 1 1), (20, 2, (fun _ => 0))]) M25 := mM23.wr 0 eM25 (Int.add_zero n).symm rfl
  have q_M25 : mN M25 = n + 7 := mM25.1.2
  rw [q_M25]
  intro M26 eM26
  have mM26 : MEM n M0 ([(3, ((kN 3 : Nat) : Int), upF (upF (upF (upF (upF (upF (upF (dvF 3) 0 0) 1 (n + 1)) 2 (n + 2)) 3 (n + 3)) 4 (n + 4)) 5 (n + 5)) 6 (n + 6)), (20, 5, (fun _ => 0)), (20, 5, (fun _ => 0)), (20, 5, (fun _ => 0)), (20, 2, (fun _ => 0)), (20, 2, upF (upF ((fun _ => 0)) 0 1) 1 1), (20, 2, (fun _ => 0)), (20, 3, (fun _ => 0))]) M26 := mM25.al eM26 rfl
  have q_M26 : mN M26 = n + 8 := mM26.1.2
  refine ⟨mM26.a 7 rfl (Nat.le_of_ble_eq_true rfl) rfl (by decide) (show (0 : Int) < 3 by decide), ?_⟩
  intro M28 eM28
  have mM28 : MEM n M0 ([(3, ((kN 3 : Nat) : Int), upF (upF (upF (upF (upF (upF (upF (dvF 3) 0 0) 1 (n + 1)) 2 (n + 2)) 3 (n + 3)) 4 (n + 4)) 5 (n + 5)) 6 (n + 6)), (20, 5, (fun _ => 0)), (20, 5, (fun _ => 0)), (20, 5, (fun _ => 0)), (20, 2, (fun _ => 0)), (20, 2, upF (upF ((fun _ => 0)) 0 1) 1 1), (20, 2, (fun _ => 0)), (20, 3, upF ((fun _ => 0)) 0 1)]) M28 := mM26.wr 7 eM28 rfl rfl
  have q_M28 : mN M28 = n + 8 := mM28.1.2
  refine ⟨mM28.a 7 rfl (Nat.le_of_ble_eq_true rfl) rfl (by decide) (show (1 : Int) < 3 by decide), ?_⟩
  intro M30 eM30
  have mM30 : MEM n M0 ([(3, ((kN 3 : Nat) : Int), upF (upF (upF (upF (upF (upF (upF (dvF 3) 0 0) 1 (n + 1)) 2 (n + 2)) 3 (n + 3)) 4 (n + 4)) 5 (n + 5)) 6 (n + 6)), (20, 5, (fun _ => 0)), (20, 5, (fun _ => 0)), (20, 5, (fun _ => 0)), (20, 2, (fun _ => 0)), (20, 2, upF (upF ((fun _ => 0)) 0 1) 1 1), (20, 2, (fun _ => 0)), (20, 3, upF (upF ((fun _ => 0)) 0 1) 1 0)]) M30 := mM28.wr 7 eM30 rfl rfl
  have q_M30 : mN M30 = n + 8 := mM30.1.2
  refine ⟨mM30.a 7 rfl (Nat.le_of_ble_eq_true rfl) rfl (by decide) (show (2 : Int) < 3 by decide), ?_⟩
  intro M32 eM32
  have mM32 : MEM n M0 ([(3, ((kN 3 : Nat) : Int), upF (upF (upF (upF (upF (upF (upF (dvF 3) 0 0) 1 (n + 1)) 2 (n + 2)) 3 (n + 3)) 4 (n + 4)) 5 (n + 5)) 6 (n + 6)), (20, 5, (fun _ => 0)), (20, 5, (fun _ => 0)), (20, 5, (fun _ => 0)), (20, 2, (fun _ => 0)), (20, 2, upF (upF ((fun _ => 0)) 0 1) 1 1), (20, 2, (fun _ => 0)), (20, 3, upF (upF (upF ((fun _ => 0)) 0 1) 1 0) 2 120)]) M32 := mM30.wr 7 eM32 rfl rfl
  have q_M32 : mN M32 = n + 8 := mM32.1.2
  refine ⟨mM32.o 0 (Int.add_zero n).symm (Nat.le_of_ble_eq_true rfl) rfl, ?_⟩
  intro M34 eM34
  have mM34 : MEM n M0 ([(3, ((kN 3 : Nat) : Int), upF (upF (upF (upF (upF (upF (upF (upF (dvF 3) 0 0) 1 (n + 1)) 2 (n + 2)) 3 (n + 3)) 4 (n + 4)) 5 (n + 5)) 6 (n + 6)) 7 (n + 7)), (20, 5, (fun _ => 0)), (20, 5, (fun _ => 0)), (20, 5, (fun _ => 0)), (20, 2, (fun _ => 0)), (20, 2, upF (upF ((fun _ => 0)) 0 1) 1 1), (20, 2, (fun _ => 0)), (20, 3, upF (upF (upF ((fun _ => 0)) 0 1) 1 0) 2 120)]) M34 := mM32.wr 0 eM34 (Int.add_zero n).symm rfl
  have q_M34 : mN M34 = n + 8 := mM34.1.2
  rw [q_M34]
  intro M35 eM35
  have mM35 : MEM n M0 ([(3, ((kN 3 : Nat) : Int), upF (upF (upF (upF (upF (upF (upF (upF (dvF 3) 0 0) 1 (n + 1)) 2 (n + 2)) 3 (n + 3)) 4 (n + 4)) 5 (n + 5)) 6 (n + 6)) 7 (n + 7)), (20, 5, (fun _ => 0)), (20, 5, (fun _ => 0)), (20, 5, (fun _ => 0)), (20, 2, (fun _ => 0)), (20, 2, upF (upF ((fun _ => 0)) 0 1) 1 1), (20, 2, (fun _ => 0)), (20, 3, upF (upF (upF ((fun _ => 0)) 0 1) 1 0) 2 120), (24, 6, (fun _ => -1))]) M35 := mM34.al eM35 rfl
  have q_M35 : mN M35 = n + 9 := mM35.1.2
  refine ⟨mM35.o 0 (Int.add_zero n).symm (Nat.le_of_ble_eq_true rfl) rfl, ?_⟩
  intro M37 eM37
  have mM37 : MEM n M0 ([(3, ((kN 3 : Nat) : Int), upF (upF (upF (upF (upF (upF (upF (upF (upF (dvF 3) 0 0) 1 (n + 1)) 2 (n + 2)) 3 (n + 3)) 4 (n + 4)) 5 (n + 5)) 6 (n + 6)) 7 (n + 7)) 8 (n + 8)), (20, 5, (fun _ => 0)), (20, 5, (fun _ => 0)), (20, 5, (fun _ => 0)), (20, 2, (fun _ => 0)), (20, 2, upF (upF ((fun _ => 0)) 0 1) 1 1), (20, 2, (fun _ => 0)), (20, 3, upF (upF (upF ((fun _ => 0)) 0 1) 1 0) 2 120), (24, 6, (fun _ => -1))]) M37 := mM35.wr 0 eM37 (Int.add_zero n).symm rfl
  have q_M37 : mN M37 = n + 9 := mM37.1.2
  refine ⟨mM37.o 0 (Int.add_zero n).symm (Nat.le_of_ble_eq_true rfl) rfl, ?_⟩
  intro M39 eM39
  have mM39 : MEM n M0 ([(3, ((kN 3 : Nat) : Int), upF (upF (upF (upF (upF (upF (upF (upF (upF (upF (dvF 3) 0 0) 1 (n + 1)) 2 (n + 2)) 3 (n + 3)) 4 (n + 4)) 5 (n + 5)) 6 (n + 6)) 7 (n + 7)) 8 (n + 8)) 9 0), (20, 5, (fun _ => 0)), (20, 5, (fun _ => 0)), (20, 5, (fun _ => 0)), (20, 2, (fun _ => 0)), (20, 2, upF (upF ((fun _ => 0)) 0 1) 1 1), (20, 2, (fun _ => 0)), (20, 3, upF (upF (upF ((fun _ => 0)) 0 1) 1 0) 2 120), (24, 6, (fun _ => -1))]) M39 := mM37.wr 0 eM39 (Int.add_zero n).symm rfl
  have q_M39 : mN M39 = n + 9 := mM39.1.2
  refine ⟨mM39.o 0 (Int.add_zero n).symm (Nat.le_of_ble_eq_true rfl) rfl, ?_⟩
  intro M41 eM41
  have mM41 : MEM n M0 ([(3, ((kN 3 : Nat) : Int), upF (upF (upF (upF (upF (upF (upF (upF (upF (upF (upF (dvF 3) 0 0) 1 (n + 1)) 2 (n + 2)) 3 (n + 3)) 4 (n + 4)) 5 (n + 5)) 6 (n + 6)) 7 (n + 7)) 8 (n + 8)) 9 0) 10 (-1)), (20, 5, (fun _ => 0)), (20, 5, (fun _ => 0)), (20, 5, (fun _ => 0)), (20, 2, (fun _ => 0)), (20, 2, upF (upF ((fun _ => 0)) 0 1) 1 1), (20, 2, (fun _ => 0)), (20, 3, upF (upF (upF ((fun _ => 0)) 0 1) 1 0) 2 120), (24, 6, (fun _ => -1))]) M41 := mM39.wr 0 eM41 (Int.add_zero n).symm rfl
  have q_M41 : mN M41 = n + 9 := mM41.1.2
  rw [q_M41]
  intro M42 eM42
  have mM42 : MEM n M0 ([(3, ((kN 3 : Nat) : Int), upF (upF (upF (upF (upF (upF (upF (upF (upF (upF (upF (dvF 3) 0 0) 1 (n + 1)) 2 (n + 2)) 3 (n + 3)) 4 (n + 4)) 5 (n + 5)) 6 (n + 6)) 7 (n + 7)) 8 (n + 8)) 9 0) 10 (-1)), (20, 5, (fun _ => 0)), (20, 5, (fun _ => 0)), (20, 5, (fun _ => 0)), (20, 2, (fun _ => 0)), (20, 2, upF (upF ((fun _ => 0)) 0 1) 1 1), (20, 2, (fun _ => 0)), (20, 3, upF (upF (upF ((fun _ => 0)) 0 1) 1 0) 2 120), (24, 6, (fun _ => -1)), (20, 5, (fun _ => 0))]) M42 := mM41.al eM42 rfl
  have q_M42 : mN M42 = n + 10 := mM42.1.2
  refine ⟨mM42.o 0 (Int.add_zero n).symm (Nat.le_of_ble_eq_true rfl) rfl, ?_⟩
  intro M44 eM44
  have mM44 : MEM n M0 ([(3, ((kN 3 : Nat) : Int), upF (upF (upF (upF (upF (upF (upF (upF (upF (upF (upF (upF (dvF 3) 0 0) 1 (n + 1)) 2 (n + 2)) 3 (n + 3)) 4 (n + 4)) 5 (n + 5)) 6 (n + 6)) 7 (n + 7)) 8 (n + 8)) 9 0) 10 (-1)) 11 (n + 9)), (20, 5, (fun _ => 0)), (20, 5, (fun _ => 0)), (20, 5, (fun _ => 0)), (20, 2, (fun _ => 0)), (20, 2, upF (upF ((fun _ => 0)) 0 1) 1 1), (20, 2, (fun _ => 0)), (20, 3, upF (upF (upF ((fun _ => 0)) 0 1) 1 0) 2 120), (24, 6, (fun _ => -1)), (20, 5, (fun _ => 0))]) M44 := mM42.wr 0 eM44 (Int.add_zero n).symm rfl
  have q_M44 : mN M44 = n + 10 := mM44.1.2
  refine ⟨mM44.o 0 (Int.add_zero n).symm (Nat.le_of_ble_eq_true rfl) rfl, ?_⟩
  intro M46 eM46
  have mM46 : MEM n M0 ([(3, ((kN 3 : Nat) : Int), upF (upF (upF (upF (upF (upF (upF (upF (upF (upF (upF (upF (upF (dvF 3) 0 0) 1 (n + 1)) 2 (n + 2)) 3 (n + 3)) 4 (n + 4)) 5 (n + 5)) 6 (n + 6)) 7 (n + 7)) 8 (n + 8)) 9 0) 10 (-1)) 11 (n + 9)) 12 0), (20, 5, (fun _ => 0)), (20, 5, (fun _ => 0)), (20, 5, (fun _ => 0)), (20, 2, (fun _ => 0)), (20, 2, upF (upF ((fun _ => 0)) 0 1) 1 1), (20, 2, (fun _ => 0)), (20, 3, upF (upF (upF ((fun _ => 0)) 0 1) 1 0) 2 120), (24, 6, (fun _ => -1)), (20, 5, (fun _ => 0))]) M46 := mM44.wr 0 eM46 (Int.add_zero n).symm rfl
  have q_M46 : mN M46 = n + 10 := mM46.1.2
  refine ⟨mM46.o 0 (Int.add_zero n).symm (Nat.le_of_ble_eq_true rfl) rfl, ?_⟩
  intro M48 eM48
  have mM48 : MEM n M0 ([(3, ((kN 3 : Nat) : Int), upF (upF (upF (upF (upF (upF (upF (upF (upF (upF (upF (upF (upF (upF (dvF 3) 0 0) 1 (n + 1)) 2 (n + 2)) 3 (n + 3)) 4 (n + 4)) 5 (n + 5)) 6 (n + 6)) 7 (n + 7)) 8 (n + 8)) 9 0) 10 (-1)) 11 (n + 9)) 12 0) 13 0), (20, 5, (fun _ => 0)), (20, 5, (fun _ => 0)), (20, 5, (fun _ => 0)), (20, 2, (fun _ => 0)), (20, 2, upF (upF ((fun _ => 0)) 0 1) 1 1), (20, 2, (fun _ => 0)), (20, 3, upF (upF (upF ((fun _ => 0)) 0 1) 1 0) 2 120), (24, 6, (fun _ => -1)), (20, 5, (fun _ => 0))]) M48 := mM46.wr 0 eM48 (Int.add_zero n).symm rfl
  have q_M48 : mN M48 = n + 10 := mM48.1.2
  rw [q_M48]
  intro M49 eM49
  have mM49 : MEM n M0 ([(3, ((kN 3 : Nat) : Int), upF (upF (upF (upF (upF (upF (upF (upF (upF (upF (upF (upF (upF (upF (dvF 3) 0 0) 1 (n + 1)) 2 (n + 2)) 3 (n + 3)) 4 (n + 4)) 5 (n + 5)) 6 (n + 6)) 7 (n + 7)) 8 (n + 8)) 9 0) 10 (-1)) 11 (n + 9)) 12 0) 13 0), (20, 5, (fun _ => 0)), (20, 5, (fun _ => 0)), (20, 5, (fun _ => 0)), (20, 2, (fun _ => 0)), (20, 2, upF (upF ((fun _ => 0)) 0 1) 1 1), (20, 2, (fun _ => 0)), (20, 3, upF (upF (upF ((fun _ => 0)) 0 1) 1 0) 2 120), (24, 6, (fun _ => -1)), (20, 5, (fun _ => 0)), (20, 6, (fun _ => 0))]) M49 := mM48.al eM49 rfl
  have q_M49 : mN M49 = n + 11 := mM49.1.2
  refine ⟨mM49.o 0 (Int.add_zero n).symm (Nat.le_of_ble_eq_true rfl) rfl, ?_⟩
  intro M51 eM51
  have mM51 : MEM n M0 ([(3, ((kN 3 : Nat) : Int), upF (upF (upF (upF (upF (upF (upF (upF (upF (upF (upF (upF (upF (upF (upF (dvF 3) 0 0) 1 (n + 1)) 2 (n + 2)) 3 (n + 3)) 4 (n + 4)) 5 (n + 5)) 6 (n + 6)) 7 (n + 7)) 8 (n + 8)) 9 0) 10 (-1)) 11 (n + 9)) 12 0) 13 0) 14 (n + 10)), (20, 5, (fun _ => 0)), (20, 5, (fun _ => 0)), (20, 5, (fun _ => 0)), (20, 2, (fun _ => 0)), (20, 2, upF (upF ((fun _ => 0)) 0 1) 1 1), (20, 2, (fun _ => 0)), (20, 3, upF (upF (upF ((fun _ => 0)) 0 1) 1 0) 2 120), (24, 6, (fun _ => -1)), (20, 5, (fun _ => 0)), (20, 6, (fun _ => 0))]) M51 := mM49.wr 0 eM51 (Int.add_zero n).symm rfl
  have q_M51 : mN M51 = n + 11 := mM51.1.2
  rw [q_M51]
  intro M52 eM52
  have mM52 : MEM n M0 ([(3, ((kN 3 : Nat) : Int), upF (upF (upF (upF (upF (upF (upF (upF (upF (upF (upF (upF (upF (upF (upF (dvF 3) 0 0) 1 (n + 1)) 2 (n + 2)) 3 (n + 3)) 4 (n + 4)) 5 (n + 5)) 6 (n + 6)) 7 (n + 7)) 8 (n + 8)) 9 0) 10 (-1)) 11 (n + 9)) 12 0) 13 0) 14 (n + 10)), (20, 5, (fun _ => 0)), (20, 5, (fun _ => 0)), (20, 5, (fun _ => 0)), (20, 2, (fun _ => 0)), (20, 2, upF (upF ((fun _ => 0)) 0 1) 1 1), (20, 2, (fun _ => 0)), (20, 3, upF (upF (upF ((fun _ => 0)) 0 1) 1 0) 2 120), (24, 6, (fun _ => -1)), (20, 5, (fun _ => 0)), (20, 6, (fun _ => 0)), (20, 5, (fun _ => 0))]) M52 := mM51.al eM52 rfl
  have q_M52 : mN M52 = n + 12 := mM52.1.2
  refine ⟨mM52.o 0 (Int.add_zero n).symm (Nat.le_of_ble_eq_true rfl) rfl, ?_⟩
  intro M54 eM54
  have mM54 : MEM n M0 ([(3, ((kN 3 : Nat) : Int), upF (upF (upF (upF (upF (upF (upF (upF (upF (upF (upF (upF (upF (upF (upF (upF (dvF 3) 0 0) 1 (n + 1)) 2 (n + 2)) 3 (n + 3)) 4 (n + 4)) 5 (n + 5)) 6 (n + 6)) 7 (n + 7)) 8 (n + 8)) 9 0) 10 (-1)) 11 (n + 9)) 12 0) 13 0) 14 (n + 10)) 15 (n + 11)), (20, 5, (fun _ => 0)), (20, 5, (fun _ => 0)), (20, 5, (fun _ => 0)), (20, 2, (fun _ => 0)), (20, 2, upF (upF ((fun _ => 0)) 0 1) 1 1), (20, 2, (fun _ => 0)), (20, 3, upF (upF (upF ((fun _ => 0)) 0 1) 1 0) 2 120), (24, 6, (fun _ => -1)), (20, 5, (fun _ => 0)), (20, 6, (fun _ => 0)), (20, 5, (fun _ => 0))]) M54 := mM52.wr 0 eM54 (Int.add_zero n).symm rfl
  have q_M54 : mN M54 = n + 12 := mM54.1.2
  refine ⟨mM54.o 0 (Int.add_zero n).symm (Nat.le_of_ble_eq_true rfl) rfl, ?_⟩
  intro M56 eM56
  have mM56 : MEM n M0 ([(3, ((kN 3 : Nat) : Int), upF (upF (upF (upF (upF (upF (upF (upF (upF (upF (upF (upF (upF (upF (upF (upF (upF (dvF 3) 0 0) 1 (n + 1)) 2 (n + 2)) 3 (n + 3)) 4 (n + 4)) 5 (n + 5)) 6 (n + 6)) 7 (n + 7)) 8 (n + 8)) 9 0) 10 (-1)) 11 (n + 9)) 12 0) 13 0) 14 (n + 10)) 15 (n + 11)) 16 0), (20, 5, (fun _ => 0)), (20, 5, (fun _ => 0)), (20, 5, (fun _ => 0)), (20, 2, (fun _ => 0)), (20, 2, upF (upF ((fun _ => 0)) 0 1) 1 1), (20, 2, (fun _ => 0)), (20, 3, upF (upF (upF ((fun _ => 0)) 0 1) 1 0) 2 120), (24, 6, (fun _ => -1)), (20, 5, (fun _ => 0)), (20, 6, (fun _ => 0)), (20, 5, (fun _ => 0))]) M56 := mM54.wr 0 eM56 (Int.add_zero n).symm rfl
  have q_M56 : mN M56 = n + 12 := mM56.1.2
  exact h _ mM56

def cl_X0 (n x1 : Int) : List Cel := [(0, ((kN 0 : Nat) : Int), upF (upF (upF (dvF 0) 1 (n + 1)) 2 (n + 2)) 0 x1), (20, 7, (fun _ => 0)), (21, 64, (fun _ => 0))]
theorem T_X0_init {G : GG} {d : Nat} {n x1 : Int} {M0 M : MM} {Q : PV → MM → Prop} (hd : 1 ≤ d) (m0 : MEM n M0 [(0, ((kN 0 : Nat) : Int), dvF 0)] M) (h : ∀ M', MEM n M0 (cl_X0 n x1) M' → Q vU M') : C G Y_X0_init d 2 71 [vA n, vA x1] M Q := by
  refine C_X0_init (B_X0_init_0 (by omega) ?_)
  have n0 := m0.1.1
  have hd1 : 0 ≤ d - 1 := by omega
  have q_M : mN M = n + 1 := m0.1.2
  rw [q_M]
  refine ⟨n0, ?_⟩
  intro M2 eM2
  have mM2 : MEM n M0 ([(0, ((kN 0 : Nat) : Int), dvF 0), (20, 7, (fun _ => 0))]) M2 := m0.al eM2 rfl
  have q_M2 : mN M2 = n + 2 := mM2.1.2
  refine ⟨mM2.o 0 (Int.add_zero n).symm (Nat.le_of_ble_eq_true rfl) rfl, ?_⟩
  intro M4 eM4
  have mM4 : MEM n M0 ([(0, ((kN 0 : Nat) : Int), upF (dvF 0) 1 (n + 1)), (20, 7, (fun _ => 0))]) M4 := mM2.wr 0 eM4 (Int.add_zero n).symm rfl
  have q_M4 : mN M4 = n + 2 := mM4.1.2
  rw [q_M4]
  intro M5 eM5
  have mM5 : MEM n M0 ([(0, ((kN 0 : Nat) : Int), upF (dvF 0) 1 (n + 1)), (20, 7, (fun _ => 0)), (21, 64, (fun _ => 0))]) M5 := mM4.al eM5 rfl
  have q_M5 : mN M5 = n + 3 := mM5.1.2
  refine ⟨mM5.o 0 (Int.add_zero n).symm (Nat.le_of_ble_eq_true rfl) rfl, ?_⟩
  intro M7 eM7
  have mM7 : MEM n M0 ([(0, ((kN 0 : Nat) : Int), upF (upF (dvF 0) 1 (n + 1)) 2 (n + 2)), (20, 7, (fun _ => 0)), (21, 64, (fun _ => 0))]) M7 := mM5.wr 0 eM7 (Int.add_zero n).symm rfl
  have q_M7 : mN M7 = n + 3 := mM7.1.2
  refine ⟨mM7.o 0 (Int.add_zero n).symm (Nat.le_of_ble_eq_true rfl) rfl, ?_⟩
  intro M9 eM9
  have mM9 : MEM n M0 ([(0, ((kN 0 : Nat) : Int), upF (upF (upF (dvF 0) 1 (n + 1)) 2 (n + 2)) 0 x1), (20, 7, (fun _ => 0)), (21, 64, (fun _ => 0))]) M9 := mM7.wr 0 eM9 (Int.add_zero n).symm rfl
  have q_M9 : mN M9 = n + 3 := mM9.1.2
  exact h _ mM9

def cl_X7 (n : Int) : List Cel := [(6, ((kN 6 : Nat) : Int), upF (upF (upF (upF (upF (dvF 6) 0 (n + 1)) 1 (n + 2)) 5 (n + 3)) 6 (n + 4)) 7 (n + 5)), (20, 401, (fun _ => 0)), (20, 401, (fun _ => 0)), (20, 12, (fun _ => 0)), (20, 13, (fun _ => 0)), (20, 400, (fun _ => 0))]
theorem T_X7_init {G : GG} {d : Nat} {n : Int} {M0 M : MM} {Q : PV → MM → Prop} (hd : 1 ≤ d) (m0 : MEM n M0 [(6, ((kN 6 : Nat) : Int), dvF 6)] M) (h : ∀ M', MEM n M0 (cl_X7 n) M' → Q vU M') : C G Y_X7_init d 5 1227 [vA n] M Q := by
  refine C_X7_init (B_X7_init_0 (by omega) ?_)
  have n0 := m0.1.1
  have hd1 : 0 ≤ d - 1 := by omega
  have q_M : mN M = n + 1 := m0.1.2
  rw [q_M]
  refine ⟨n0, ?_⟩
  intro M2 eM2
  have mM2 : MEM n M0 ([(6, ((kN 6 : Nat) : Int), dvF 6), (20, 401, (fun _ => 0))]) M2 := m0.al eM2 rfl
  have q_M2 : mN M2 = n + 2 := mM2.1.2
  refine ⟨mM2.o 0 (Int.add_zero n).symm (Nat.le_of_ble_eq_true rfl) rfl, ?_⟩
  intro M4 eM4
  have mM4 : MEM n M0 ([(6, ((kN 6 : Nat) : Int), upF (dvF 6) 0 (n + 1)), (20, 401, (fun _ => 0))]) M4 := mM2.wr 0 eM4 (Int.add_zero n).symm rfl
  have q_M4 : mN M4 = n + 2 := mM4.1.2
  rw [q_M4]
  intro M5 eM5
  have mM5 : MEM n M0 ([(6, ((kN 6 : Nat) : Int), upF (dvF 6) 0 (n + 1)), (20, 401, (fun _ => 0)), (20, 401, (fun _ => 0))]) M5 := mM4.al eM5 rfl
  have q_M5 : mN M5 = n + 3 := mM5.1.2
  refine ⟨mM5.o 0 (Int.add_zero n).symm (Nat.le_of_ble_eq_true rfl) rfl, ?_⟩
  intro M7 eM7
  have mM7 : MEM n M0 ([(6, ((kN 6 : Nat) : Int), upF (upF (dvF 6) 0 (n + 1)) 1 (n + 2)), (20, 401, (fun _ => 0)), (20, 401, (fun _ => 0))]) M7 := mM5.wr 0 eM7 (Int.add_zero n).symm rfl
  have q_M7 : mN M7 = n + 3 := mM7.1.2
  rw [q_M7]
  intro M8 eM8
  have mM8 : MEM n M0 ([(6, ((kN 6 : Nat) : Int), upF (upF (dvF 6) 0 (n + 1)) 1 (n + 2)), (20, 401, (fun _ => 0)), (20, 401, (fun _ => 0)), (20, 12, (fun _ => 0))]) M8 := mM7.al eM8 rfl
  have q_M8 : mN M8 = n + 4 := mM8.1.2
  refine ⟨mM8.o 0 (Int.add_zero n).symm (Nat.le_of_ble_eq_true rfl) rfl, ?_⟩
  intro M10 eM10
  have mM10 : MEM n M0 ([(6, ((kN 6 : Nat) : Int), upF (upF (upF (dvF 6) 0 (n + 1)) 1 (n + 2)) 5 (n + 3)), (20, 401, (fun _ => 0)), (20, 401, (fun _ => 0)), (20, 12, (fun _ => 0))]) M10 := mM8.wr 0 eM10 (Int.add_zero n).symm rfl
  have q_M10 : mN M10 = n + 4 := mM10.1.2
  rw [q_M10]
  intro M11 eM11
  have mM11 : MEM n M0 ([(6, ((kN 6 : Nat) : Int), upF (upF (upF (dvF 6) 0 (n + 1)) 1 (n + 2)) 5 (n + 3)), (20, 401, (fun _ => 0)), (20, 401, (fun _ => 0)), (20, 12, (fun _ => 0)), (20, 13, (fun _ => 0))]) M11 := mM10.al eM11 rfl
  have q_M11 : mN M11 = n + 5 := mM11.1.2
  refine ⟨mM11.o 0 (Int.add_zero n).symm (Nat.le_of_ble_eq_true rfl) rfl, ?_⟩
  intro M13 eM13
  have mM13 : MEM n M0 ([(6, ((kN 6 : Nat) : Int), upF (upF (upF (upF (dvF 6) 0 (n + 1)) 1 (n + 2)) 5 (n + 3)) 6 (n + 4)), (20, 401, (fun _ => 0)), (20, 401, (fun _ => 0)), (20, 12, (fun _ => 0)), (20, 13, (fun _ => 0))]) M13 := mM11.wr 0 eM13 (Int.add_zero n).symm rfl
  have q_M13 : mN M13 = n + 5 := mM13.1.2
  rw [q_M13]
  intro M14 eM14
  have mM14 : MEM n M0 ([(6, ((kN 6 : Nat) : Int), upF (upF (upF (upF (dvF 6) 0 (n + 1)) 1 (n + 2)) 5 (n + 3)) 6 (n + 4)), (20, 401, (fun _ => 0)), (20, 401, (fun _ => 0)), (20, 12, (fun _ => 0)), (20, 13, (fun _ => 0)), (20, 400, (fun _ => 0))]) M14 := mM13.al eM14 rfl
  have q_M14 : mN M14 = n + 6 := mM14.1.2
  refine ⟨mM14.o 0 (Int.add_zero n).symm (Nat.le_of_ble_eq_true rfl) rfl, ?_⟩
  intro M16 eM16
  have mM16 : MEM n M0 ([(6, ((kN 6 : Nat) : Int), upF (upF (upF (upF (upF (dvF 6) 0 (n + 1)) 1 (n + 2)) 5 (n + 3)) 6 (n + 4)) 7 (n + 5)), (20, 401, (fun _ => 0)), (20, 401, (fun _ => 0)), (20, 12, (fun _ => 0)), (20, 13, (fun _ => 0)), (20, 400, (fun _ => 0))]) M16 := mM14.wr 0 eM16 (Int.add_zero n).symm rfl
  have q_M16 : mN M16 = n + 6 := mM16.1.2
  exact h _ mM16

def cl_X9 (n x1 x2 x3 : Int) : List Cel := [(8, ((kN 8 : Nat) : Int), upF (upF (upF (upF (upF (upF (upF (upF (upF (upF (upF (upF (dvF 8) 3 (n + 1)) 4 (n + 2)) 5 (n + 3)) 6 (n + 4)) 7 (n + 5)) 8 (n + 6)) 9 1) 10 4) 11 8) 0 x1) 1 x2) 2 x3), (21, 18504, (fun _ => 0)), (20, 2916, (fun _ => 0)), (21, 14, (fun _ => 0)), (21, 14, (fun _ => 0)), (21, 6, (fun _ => 0)), (21, 6, (fun _ => 0))]
theorem T_X9_init {G : GG} {d : Nat} {n x1 x2 x3 : Int} {M0 M : MM} {Q : PV → MM → Prop} (hd : 1 ≤ d) (m0 : MEM n M0 [(8, ((kN 8 : Nat) : Int), dvF 8)] M) (h : ∀ M', MEM n M0 (cl_X9 n x1 x2 x3) M' → Q vU M') : C G Y_X9_init d 6 21460 [vA n, vA x1, vA x2, vA x3] M Q := by
  refine C_X9_init (B_X9_init_0 (by omega) ?_)
  have n0 := m0.1.1
  have hd1 : 0 ≤ d - 1 := by omega
  have q_M : mN M = n + 1 := m0.1.2
  rw [q_M]
  refine ⟨n0, ?_⟩
  intro M2 eM2
  have mM2 : MEM n M0 ([(8, ((kN 8 : Nat) : Int), dvF 8), (21, 18504, (fun _ => 0))]) M2 := m0.al eM2 rfl
  have q_M2 : mN M2 = n + 2 := mM2.1.2
  refine ⟨mM2.o 0 (Int.add_zero n).symm (Nat.le_of_ble_eq_true rfl) rfl, ?_⟩
  intro M4 eM4
  have mM4 : MEM n M0 ([(8, ((kN 8 : Nat) : Int), upF (dvF 8) 3 (n + 1)), (21, 18504, (fun _ => 0))]) M4 := mM2.wr 0 eM4 (Int.add_zero n).symm rfl
  have q_M4 : mN M4 = n + 2 := mM4.1.2
  rw [q_M4]
  intro M5 eM5
  have mM5 : MEM n M0 ([(8, ((kN 8 : Nat) : Int), upF (dvF 8) 3 (n + 1)), (21, 18504, (fun _ => 0)), (20, 2916, (fun _ => 0))]) M5 := mM4.al eM5 rfl
  have q_M5 : mN M5 = n + 3 := mM5.1.2
  refine ⟨mM5.o 0 (Int.add_zero n).symm (Nat.le_of_ble_eq_true rfl) rfl, ?_⟩
  intro M7 eM7
  have mM7 : MEM n M0 ([(8, ((kN 8 : Nat) : Int), upF (upF (dvF 8) 3 (n + 1)) 4 (n + 2)), (21, 18504, (fun _ => 0)), (20, 2916, (fun _ => 0))]) M7 := mM5.wr 0 eM7 (Int.add_zero n).symm rfl
  have q_M7 : mN M7 = n + 3 := mM7.1.2
  rw [q_M7]
  intro M8 eM8
  have mM8 : MEM n M0 ([(8, ((kN 8 : Nat) : Int), upF (upF (dvF 8) 3 (n + 1)) 4 (n + 2)), (21, 18504, (fun _ => 0)), (20, 2916, (fun _ => 0)), (21, 14, (fun _ => 0))]) M8 := mM7.al eM8 rfl
  have q_M8 : mN M8 = n + 4 := mM8.1.2
  refine ⟨mM8.o 0 (Int.add_zero n).symm (Nat.le_of_ble_eq_true rfl) rfl, ?_⟩
  intro M10 eM10
  have mM10 : MEM n M0 ([(8, ((kN 8 : Nat) : Int), upF (upF (upF (dvF 8) 3 (n + 1)) 4 (n + 2)) 5 (n + 3)), (21, 18504, (fun _ => 0)), (20, 2916, (fun _ => 0)), (21, 14, (fun _ => 0))]) M10 := mM8.wr 0 eM10 (Int.add_zero n).symm rfl
  have q_M10 : mN M10 = n + 4 := mM10.1.2
  rw [q_M10]
  intro M11 eM11
  have mM11 : MEM n M0 ([(8, ((kN 8 : Nat) : Int), upF (upF (upF (dvF 8) 3 (n + 1)) 4 (n + 2)) 5 (n + 3)), (21, 18504, (fun _ => 0)), (20, 2916, (fun _ => 0)), (21, 14, (fun _ => 0)), (21, 14, (fun _ => 0))]) M11 := mM10.al eM11 rfl
  have q_M11 : mN M11 = n + 5 := mM11.1.2
  refine ⟨mM11.o 0 (Int.add_zero n).symm (Nat.le_of_ble_eq_true rfl) rfl, ?_⟩
  intro M13 eM13
  have mM13 : MEM n M0 ([(8, ((kN 8 : Nat) : Int), upF (upF (upF (upF (dvF 8) 3 (n + 1)) 4 (n + 2)) 5 (n + 3)) 6 (n + 4)), (21, 18504, (fun _ => 0)), (20, 2916, (fun _ => 0)), (21, 14, (fun _ => 0)), (21, 14, (fun _ => 0))]) M13 := mM11.wr 0 eM13 (Int.add_zero n).symm rfl
  have q_M13 : mN M13 = n + 5 := mM13.1.2
  rw [q_M13]
  intro M14 eM14
  have mM14 : MEM n M0 ([(8, ((kN 8 : Nat) : Int), upF (upF (upF (upF (dvF 8) 3 (n + 1)) 4 (n + 2)) 5 (n + 3)) 6 (n + 4)), (21, 18504, (fun _ => 0)), (20, 2916, (fun _ => 0)), (21, 14, (fun _ => 0)), (21, 14, (fun _ => 0)), (21, 6, (fun _ => 0))]) M14 := mM13.al eM14 rfl
  have q_M14 : mN M14 = n + 6 := mM14.1.2
  refine ⟨mM14.o 0 (Int.add_zero n).symm (Nat.le_of_ble_eq_true rfl) rfl, ?_⟩
  intro M16 eM16
  have mM16 : MEM n M0 ([(8, ((kN 8 : Nat) : Int), upF (upF (upF (upF (upF (dvF 8) 3 (n + 1)) 4 (n + 2)) 5 (n + 3)) 6 (n + 4)) 7 (n + 5)), (21, 18504, (fun _ => 0)), (20, 2916, (fun _ => 0)), (21, 14, (fun _ => 0)), (21, 14, (fun _ => 0)), (21, 6, (fun _ => 0))]) M16 := mM14.wr 0 eM16 (Int.add_zero n).symm rfl
  have q_M16 : mN M16 = n + 6 := mM16.1.2
  rw [q_M16]
  intro M17 eM17
  have mM17 : MEM n M0 ([(8, ((kN 8 : Nat) : Int), upF (upF (upF (upF (upF (dvF 8) 3 (n + 1)) 4 (n + 2)) 5 (n + 3)) 6 (n + 4)) 7 (n + 5)), (21, 18504, (fun _ => 0)), (20, 2916, (fun _ => 0)), (21, 14, (fun _ => 0)), (21, 14, (fun _ => 0)), (21, 6, (fun _ => 0)), (21, 6, (fun _ => 0))]) M17 := mM16.al eM17 rfl
  have q_M17 : mN M17 = n + 7 := mM17.1.2
  refine ⟨mM17.o 0 (Int.add_zero n).symm (Nat.le_of_ble_eq_true rfl) rfl, ?_⟩
  intro M19 eM19
  have mM19 : MEM n M0 ([(8, ((kN 8 : Nat) : Int), upF (upF (upF (upF (upF (upF (dvF 8) 3 (n + 1)) 4 (n + 2)) 5 (n + 3)) 6 (n + 4)) 7 (n + 5)) 8 (n + 6)), (21, 18504, (fun _ => 0)), (20, 2916, (fun _ => 0)), (21, 14, (fun _ => 0)), (21, 14, (fun _ => 0)), (21, 6, (fun _ => 0)), (21, 6, (fun _ => 0))]) M19 := mM17.wr 0 eM19 (Int.add_zero n).symm rfl
  have q_M19 : mN M19 = n + 7 := mM19.1.2
  refine ⟨mM19.o 0 (Int.add_zero n).symm (Nat.le_of_ble_eq_true rfl) rfl, ?_⟩
  intro M21 eM21
  have mM21 : MEM n M0 ([(8, ((kN 8 : Nat) : Int), upF (upF (upF (upF (upF (upF (upF (dvF 8) 3 (n + 1)) 4 (n + 2)) 5 (n + 3)) 6 (n + 4)) 7 (n + 5)) 8 (n + 6)) 9 1), (21, 18504, (fun _ => 0)), (20, 2916, (fun _ => 0)), (21, 14, (fun _ => 0)), (21, 14, (fun _ => 0)), (21, 6, (fun _ => 0)), (21, 6, (fun _ => 0))]) M21 := mM19.wr 0 eM21 (Int.add_zero n).symm rfl
  have q_M21 : mN M21 = n + 7 := mM21.1.2
  refine ⟨mM21.o 0 (Int.add_zero n).symm (Nat.le_of_ble_eq_true rfl) rfl, ?_⟩
  intro M23 eM23
  have mM23 : MEM n M0 ([(8, ((kN 8 : Nat) : Int), upF (upF (upF (upF (upF (upF (upF (upF (dvF 8) 3 (n + 1)) 4 (n + 2)) 5 (n + 3)) 6 (n + 4)) 7 (n + 5)) 8 (n + 6)) 9 1) 10 4), (21, 18504, (fun _ => 0)), (20, 2916, (fun _ => 0)), (21, 14, (fun _ => 0)), (21, 14, (fun _ => 0)), (21, 6, (fun _ => 0)), (21, 6, (fun _ => 0))]) M23 := mM21.wr 0 eM23 (Int.add_zero n).symm rfl
  have q_M23 : mN M23 = n + 7 := mM23.1.2
  refine ⟨mM23.o 0 (Int.add_zero n).symm (Nat.le_of_ble_eq_true rfl) rfl, ?_⟩
  intro M25 eM25
  have mM25 : MEM n M0 ([(8, ((kN 8 : Nat) : Int), upF (upF (upF (upF (upF (upF (upF (upF (upF (dvF 8) 3 (n + 1)) 4 (n + 2)) 5 (n + 3)) 6 (n + 4)) 7 (n + 5)) 8 (n + 6)) 9 1) 10 4) 11 8), (21, 18504, (fun _ => 0)), (20, 2916, (fun _ => 0)), (21, 14, (fun _ => 0)), (21, 14, (fun _ => 0)), (21, 6, (fun _ => 0)), (21, 6, (fun _ => 0))]) M25 := mM23.wr 0 eM25 (Int.add_zero n).symm rfl
  have q_M25 : mN M25 = n + 7 := mM25.1.2
  refine ⟨mM25.o 0 (Int.add_zero n).symm (Nat.le_of_ble_eq_true rfl) rfl, ?_⟩
  intro M27 eM27
  have mM27 : MEM n M0 ([(8, ((kN 8 : Nat) : Int), upF (upF (upF (upF (upF (upF (upF (upF (upF (upF (dvF 8) 3 (n + 1)) 4 (n + 2)) 5 (n + 3)) 6 (n + 4)) 7 (n + 5)) 8 (n + 6)) 9 1) 10 4) 11 8) 0 x1), (21, 18504, (fun _ => 0)), (20, 2916, (fun _ => 0)), (21, 14, (fun _ => 0)), (21, 14, (fun _ => 0)), (21, 6, (fun _ => 0)), (21, 6, (fun _ => 0))]) M27 := mM25.wr 0 eM27 (Int.add_zero n).symm rfl
  have q_M27 : mN M27 = n + 7 := mM27.1.2
  refine ⟨mM27.o 0 (Int.add_zero n).symm (Nat.le_of_ble_eq_true rfl) rfl, ?_⟩
  intro M29 eM29
  have mM29 : MEM n M0 ([(8, ((kN 8 : Nat) : Int), upF (upF (upF (upF (upF (upF (upF (upF (upF (upF (upF (dvF 8) 3 (n + 1)) 4 (n + 2)) 5 (n + 3)) 6 (n + 4)) 7 (n + 5)) 8 (n + 6)) 9 1) 10 4) 11 8) 0 x1) 1 x2), (21, 18504, (fun _ => 0)), (20, 2916, (fun _ => 0)), (21, 14, (fun _ => 0)), (21, 14, (fun _ => 0)), (21, 6, (fun _ => 0)), (21, 6, (fun _ => 0))]) M29 := mM27.wr 0 eM29 (Int.add_zero n).symm rfl
  have q_M29 : mN M29 = n + 7 := mM29.1.2
  refine ⟨mM29.o 0 (Int.add_zero n).symm (Nat.le_of_ble_eq_true rfl) rfl, ?_⟩
  intro M31 eM31
  have mM31 : MEM n M0 ([(8, ((kN 8 : Nat) : Int), upF (upF (upF (upF (upF (upF (upF (upF (upF (upF (upF (upF (dvF 8) 3 (n + 1)) 4 (n + 2)) 5 (n + 3)) 6 (n + 4)) 7 (n + 5)) 8 (n + 6)) 9 1) 10 4) 11 8) 0 x1) 1 x2) 2 x3), (21, 18504, (fun _ => 0)), (20, 2916, (fun _ => 0)), (21, 14, (fun _ => 0)), (21, 14, (fun _ => 0)), (21, 6, (fun _ => 0)), (21, 6, (fun _ => 0))]) M31 := mM29.wr 0 eM31 (Int.add_zero n).symm rfl
  have q_M31 : mN M31 = n + 7 := mM31.1.2
  exact h _ mM31

def cl_X3 (n x1 x2 : Int) : List Cel := [(2, ((kN 2 : Nat) : Int), upF (upF (upF (upF (upF (dvF 2) 3 (n + 1)) 4 0) 0 x1) 1 x2) 2 (n + 2)), (20, 5, (fun _ => 0))] ++ cl_X9 (n + 2) x1 x2 (-1)
theorem T_X3_init {G : GG} {d : Nat} {n x1 x2 : Int} {M0 M : MM} {Q : PV → MM → Prop} (hd : 2 ≤ d) (m0 : MEM n M0 [(2, ((kN 2 : Nat) : Int), dvF 2)] M) (h : ∀ M', MEM n M0 (cl_X3 n x1 x2) M' → Q vU M') : C G Y_X3_init d 8 21477 [vA n, vA x1, vA x2] M Q := by
  refine C_X3_init (B_X3_init_0 (by omega) ?_)
  have n0 := m0.1.1
  have hd1 : 1 ≤ d - 1 := by omega
  have q_M : mN M = n + 1 := m0.1.2
  rw [q_M]
  refine ⟨n0, ?_⟩
  intro M2 eM2
  have mM2 : MEM n M0 ([(2, ((kN 2 : Nat) : Int), dvF 2), (20, 5, (fun _ => 0))]) M2 := m0.al eM2 rfl
  have q_M2 : mN M2 = n + 2 := mM2.1.2
  refine ⟨mM2.o 0 (Int.add_zero n).symm (Nat.le_of_ble_eq_true rfl) rfl, ?_⟩
  intro M4 eM4
  have mM4 : MEM n M0 ([(2, ((kN 2 : Nat) : Int), upF (dvF 2) 3 (n + 1)), (20, 5, (fun _ => 0))]) M4 := mM2.wr 0 eM4 (Int.add_zero n).symm rfl
  have q_M4 : mN M4 = n + 2 := mM4.1.2
  refine ⟨mM4.o 0 (Int.add_zero n).symm (Nat.le_of_ble_eq_true rfl) rfl, ?_⟩
  intro M6 eM6
  have mM6 : MEM n M0 ([(2, ((kN 2 : Nat) : Int), upF (upF (dvF 2) 3 (n + 1)) 4 0), (20, 5, (fun _ => 0))]) M6 := mM4.wr 0 eM6 (Int.add_zero n).symm rfl
  have q_M6 : mN M6 = n + 2 := mM6.1.2
  refine ⟨mM6.o 0 (Int.add_zero n).symm (Nat.le_of_ble_eq_true rfl) rfl, ?_⟩
  intro M8 eM8
  have mM8 : MEM n M0 ([(2, ((kN 2 : Nat) : Int), upF (upF (upF (dvF 2) 3 (n + 1)) 4 0) 0 x1), (20, 5, (fun _ => 0))]) M8 := mM6.wr 0 eM8 (Int.add_zero n).symm rfl
  have q_M8 : mN M8 = n + 2 := mM8.1.2
  refine ⟨mM8.o 0 (Int.add_zero n).symm (Nat.le_of_ble_eq_true rfl) rfl, ?_⟩
  intro M10 eM10
  have mM10 : MEM n M0 ([(2, ((kN 2 : Nat) : Int), upF (upF (upF (upF (dvF 2) 3 (n + 1)) 4 0) 0 x1) 1 x2), (20, 5, (fun _ => 0))]) M10 := mM8.wr 0 eM10 (Int.add_zero n).symm rfl
  have q_M10 : mN M10 = n + 2 := mM10.1.2
  rw [q_M10]
  intro M11 eM11
  have yM11 := MEM.nil' (M := M10) (k := n + 2) (Int.add_nonneg n0 (by decide)) q_M10
  have zM11 := yM11.al eM11 rfl
  refine ⟨Int.add_nonneg n0 (by decide), ?_⟩
  refine T_X9_init (Nat.le_trans (by decide) hd1) zM11 (fun M13 gM13 => ?_)
  have mM13 : MEM n M0 ([(2, ((kN 2 : Nat) : Int), upF (upF (upF (upF (dvF 2) 3 (n + 1)) 4 0) 0 x1) 1 x2), (20, 5, (fun _ => 0))] ++ cl_X9 (n + 2) x1 x2 (-1)) M13 := mM10.app rfl gM13 rfl
  have q_M13 : mN M13 = n + 9 := mM13.1.2
  show _ ∧ _
  refine ⟨mM13.o 0 (Int.add_zero n).symm (Nat.le_of_ble_eq_true rfl) rfl, ?_⟩
  intro M15 eM15
  have mM15 : MEM n M0 ([(2, ((kN 2 : Nat) : Int), upF (upF (upF (upF (upF (dvF 2) 3 (n + 1)) 4 0) 0 x1) 1 x2) 2 (n + 2)), (20, 5, (fun _ => 0))] ++ cl_X9 (n + 2) x1 x2 (-1)) M15 := mM13.wr 0 eM15 (Int.add_zero n).symm rfl
  have q_M15 : mN M15 = n + 9 := mM15.1.2
  exact h _ mM15

def cl_X6 (n x1 x2 x3 : Int) : List Cel := [(5, ((kN 5 : Nat) : Int), upF (upF (upF (upF (upF (upF (upF (upF (upF (upF (upF (upF (dvF 5) 4 0) 5 (n + 1)) 6 0) 7 0) 8 0) 9 (n + 2)) 10 (n + 3)) 11 (n + 4)) 0 x1) 1 x2) 2 x3) 3 (n + 5)), (20, 120, (fun _ => 0)), (21, 14, (fun _ => 0)), (21, 14, (fun _ => 0)), (21, 14, (fun _ => 0))] ++ cl_X9 (n + 5) x1 x2 x3
theorem T_X6_init {G : GG} {d : Nat} {n x1 x2 x3 : Int} {M0 M : MM} {Q : PV → MM → Prop} (hd : 2 ≤ d) (m0 : MEM n M0 [(5, ((kN 5 : Nat) : Int), dvF 5)] M) (h : ∀ M', MEM n M0 (cl_X6 n x1 x2 x3) M' → Q vU M') : C G Y_X6_init d 11 21634 [vA n, vA x1, vA x2, vA x3] M Q := by
  refine C_X6_init (B_X6_init_0 (by omega) ?_)
  have n0 := m0.1.1
  have hd1 : 1 ≤ d - 1 := by omega
  have q_M : mN M = n + 1 := m0.1.2
  refine ⟨n0, ?_⟩
  refine ⟨m0.o 0 (Int.add_zero n).symm (Nat.le_of_ble_eq_true rfl) rfl, ?_⟩
  intro M3 eM3
  have mM3 : MEM n M0 ([(5, ((kN 5 : Nat) : Int), upF (dvF 5) 4 0)]) M3 := m0.wr 0 eM3 (Int.add_zero n).symm rfl
  have q_M3 : mN M3 = n + 1 := mM3.1.2
  rw [q_M3]
  intro M4 eM4
  have mM4 : MEM n M0 ([(5, ((kN 5 : Nat) : Int), upF (dvF 5) 4 0), (20, 120, (fun _ => 0))]) M4 := mM3.al eM4 rfl
  have q_M4 : mN M4 = n + 2 := mM4.1.2
  refine ⟨mM4.o 0 (Int.add_zero n).symm (Nat.le_of_ble_eq_true rfl) rfl, ?_⟩
  intro M6 eM6
  have mM6 : MEM n M0 ([(5, ((kN 5 : Nat) : Int), upF (upF (dvF 5) 4 0) 5 (n + 1)), (20, 120, (fun _ => 0))]) M6 := mM4.wr 0 eM6 (Int.add_zero n).symm rfl
  have q_M6 : mN M6 = n + 2 := mM6.1.2
  refine ⟨mM6.o 0 (Int.add_zero n).symm (Nat.le_of_ble_eq_true rfl) rfl, ?_⟩
  intro M8 eM8
  have mM8 : MEM n M0 ([(5, ((kN 5 : Nat) : Int), upF (upF (upF (dvF 5) 4 0) 5 (n + 1)) 6 0), (20, 120, (fun _ => 0))]) M8 := mM6.wr 0 eM8 (Int.add_zero n).symm rfl
  have q_M8 : mN M8 = n + 2 := mM8.1.2
  refine ⟨mM8.o 0 (Int.add_zero n).symm (Nat.le_of_ble_eq_true rfl) rfl, ?_⟩
  intro M10 eM10
  have mM10 : MEM n M0 ([(5, ((kN 5 : Nat) : Int), upF (upF (upF (upF (dvF 5) 4 0) 5 (n + 1)) 6 0) 7 0), (20, 120, (fun _ => 0))]) M10 := mM8.wr 0 eM10 (Int.add_zero n).symm rfl
  have q_M10 : mN M10 = n + 2 := mM10.1.2
  refine ⟨mM10.o 0 (Int.add_zero n).symm (Nat.le_of_ble_eq_true rfl) rfl, ?_⟩
  intro M12 eM12
  have mM12 : MEM n M0 ([(5, ((kN 5 : Nat) : Int), upF (upF (upF (upF (upF (dvF 5) 4 0) 5 (n + 1)) 6 0) 7 0) 8 0), (20, 120, (fun _ => 0))]) M12 := mM10.wr 0 eM12 (Int.add_zero n).symm rfl
  have q_M12 : mN M12 = n + 2 := mM12.1.2
  rw [q_M12]
  intro M13 eM13
  have mM13 : MEM n M0 ([(5, ((kN 5 : Nat) : Int), upF (upF (upF (upF (upF (dvF 5) 4 0) 5 (n + 1)) 6 0) 7 0) 8 0), (20, 120, (fun _ => 0)), (21, 14, (fun _ => 0))]) M13 := mM12.al eM13 rfl
  have q_M13 : mN M13 = n + 3 := mM13.1.2
  refine ⟨mM13.o 0 (Int.add_zero n).symm (Nat.le_of_ble_eq_true rfl) rfl, ?_⟩
  intro M15 eM15
  have mM15 : MEM n M0 ([(5, ((kN 5 : Nat) : Int), upF (upF (upF (upF (upF (upF (dvF 5) 4 0) 5 (n + 1)) 6 0) 7 0) 8 0) 9 (n + 2)), (20, 120, (fun _ => 0)), (21, 14, (fun _ => 0))]) M15 := mM13.wr 0 eM15 (Int.add_zero n).symm rfl
  have q_M15 : mN M15 = n + 3 := mM15.1.2
  rw [q_M15]
  intro M16 eM16
  have mM16 : MEM n M0 ([(5, ((kN 5 : Nat) : Int), upF (upF (upF (upF (upF (upF (dvF 5) 4 0) 5 (n + 1)) 6 0) 7 0) 8 0) 9 (n + 2)), (20, 120, (fun _ => 0)), (21, 14, (fun _ => 0)), (21, 14, (fun _ => 0))]) M16 := mM15.al eM16 rfl
  have q_M16 : mN M16 = n + 4 := mM16.1.2
  refine ⟨mM16.o 0 (Int.add_zero n).symm (Nat.le_of_ble_eq_true rfl) rfl, ?_⟩
  intro M18 eM18
  have mM18 : MEM n M0 ([(5, ((kN 5 : Nat) : Int), upF (upF (upF (upF (upF (upF (upF (dvF 5) 4 0) 5 (n + 1)) 6 0) 7 0) 8 0) 9 (n + 2)) 10 (n + 3)), (20, 120, (fun _ => 0)), (21, 14, (fun _ => 0)), (21, 14, (fun _ => 0))]) M18 := mM16.wr 0 eM18 (Int.add_zero n).symm rfl
  have q_M18 : mN M18 = n + 4 := mM18.1.2
  rw [q_M18]
  intro M19 eM19
  have mM19 : MEM n M0 ([(5, ((kN 5 : Nat) : Int), upF (upF (upF (upF (upF (upF (upF (dvF 5) 4 0) 5 (n + 1)) 6 0) 7 0) 8 0) 9 (n + 2)) 10 (n + 3)), (20, 120, (fun _ => 0)), (21, 14, (fun _ => 0)), (21, 14, (fun _ => 0)), (21, 14, (fun _ => 0))]) M19 := mM18.al eM19 rfl
  have q_M19 : mN M19 = n + 5 := mM19.1.2
  refine ⟨mM19.o 0 (Int.add_zero n).symm (Nat.le_of_ble_eq_true rfl) rfl, ?_⟩
  intro M21 eM21
  have mM21 : MEM n M0 ([(5, ((kN 5 : Nat) : Int), upF (upF (upF (upF (upF (upF (upF (upF (dvF 5) 4 0) 5 (n + 1)) 6 0) 7 0) 8 0) 9 (n + 2)) 10 (n + 3)) 11 (n + 4)), (20, 120, (fun _ => 0)), (21, 14, (fun _ => 0)), (21, 14, (fun _ => 0)), (21, 14, (fun _ => 0))]) M21 := mM19.wr 0 eM21 (Int.add_zero n).symm rfl
  have q_M21 : mN M21 = n + 5 := mM21.1.2
  refine ⟨mM21.o 0 (Int.add_zero n).symm (Nat.le_of_ble_eq_true rfl) rfl, ?_⟩
  intro M23 eM23
  have mM23 : MEM n M0 ([(5, ((kN 5 : Nat) : Int), upF (upF (upF (upF (upF (upF (upF (upF (upF (dvF 5) 4 0) 5 (n + 1)) 6 0) 7 0) 8 0) 9 (n + 2)) 10 (n + 3)) 11 (n + 4)) 0 x1), (20, 120, (fun _ => 0)), (21, 14, (fun _ => 0)), (21, 14, (fun _ => 0)), (21, 14, (fun _ => 0))]) M23 := mM21.wr 0 eM23 (Int.add_zero n).symm rfl
  have q_M23 : mN M23 = n + 5 := mM23.1.2
  refine ⟨mM23.o 0 (Int.add_zero n).symm (Nat.le_of_ble_eq_true rfl) rfl, ?_⟩
  intro M25 eM25
  have mM25 : MEM n M0 ([(5, ((kN 5 : Nat) : Int), upF (upF (upF (upF (upF (upF (upF (upF (upF (upF (dvF 5) 4 0) 5 (n + 1)) 6 0) 7 0) 8 0) 9 (n + 2)) 10 (n + 3)) 11 (n + 4)) 0 x1) 1 x2), (20, 120, (fun _ => 0)), (21, 14, (fun _ => 0)), (21, 14, (fun _ => 0)), (21, 14, (fun _ => 0))]) M25 := mM23.wr 0 eM25 (Int.add_zero n).symm rfl
  have q_M25 : mN M25 = n + 5 := mM25.1.2
  refine ⟨mM25.o 0 (Int.add_zero n).symm (Nat.le_of_ble_eq_true rfl) rfl, ?_⟩
  intro M27 eM27
  have mM27 : MEM n M0 ([(5, ((kN 5 : Nat) : Int), upF (upF (upF (upF (upF (upF (upF (upF (upF (upF (upF (dvF 5) 4 0) 5 (n + 1)) 6 0) 7 0) 8 0) 9 (n + 2)) 10 (n + 3)) 11 (n + 4)) 0 x1) 1 x2) 2 x3), (20, 120, (fun _ => 0)), (21, 14, (fun _ => 0)), (21, 14, (fun _ => 0)), (21, 14, (fun _ => 0))]) M27 := mM25.wr 0 eM27 (Int.add_zero n).symm rfl
  have q_M27 : mN M27 = n + 5 := mM27.1.2
  rw [q_M27]
  intro M28 eM28
  have yM28 := MEM.nil' (M := M27) (k := n + 5) (Int.add_nonneg n0 (by decide)) q_M27
  have zM28 := yM28.al eM28 rfl
  refine ⟨Int.add_nonneg n0 (by decide), ?_⟩
  refine T_X9_init (Nat.le_trans (by decide) hd1) zM28 (fun M30 gM30 => ?_)
  have mM30 : MEM n M0 ([(5, ((kN 5 : Nat) : Int), upF (upF (upF (upF (upF (upF (upF (upF (upF (upF (upF (dvF 5) 4 0) 5 (n + 1)) 6 0) 7 0) 8 0) 9 (n + 2)) 10 (n + 3)) 11 (n + 4)) 0 x1) 1 x2) 2 x3), (20, 120, (fun _ => 0)), (21, 14, (fun _ => 0)), (21, 14, (fun _ => 0)), (21, 14, (fun _ => 0))] ++ cl_X9 (n + 5) x1 x2 x3) M30 := mM27.app rfl gM30 rfl
  have q_M30 : mN M30 = n + 12 := mM30.1.2
  show _ ∧ _
  refine ⟨mM30.o 0 (Int.add_zero n).symm (Nat.le_of_ble_eq_true rfl) rfl, ?_⟩
  intro M32 eM32
  have mM32 : MEM n M0 ([(5, ((kN 5 : Nat) : Int), upF (upF (upF (upF (upF (upF (upF (upF (upF (upF (upF (upF (dvF 5) 4 0) 5 (n + 1)) 6 0) 7 0) 8 0) 9 (n + 2)) 10 (n + 3)) 11 (n + 4)) 0 x1) 1 x2) 2 x3) 3 (n + 5)), (20, 120, (fun _ => 0)), (21, 14, (fun _ => 0)), (21, 14, (fun _ => 0)), (21, 14, (fun _ => 0))] ++ cl_X9 (n + 5) x1 x2 x3) M32 := mM30.wr 0 eM32 (Int.add_zero n).symm rfl
  have q_M32 : mN M32 = n + 12 := mM32.1.2
  exact h _ mM32

def cl_X1 (n x1 x2 : Int) : List Cel := [(1, ((kN 1 : Nat) : Int), upF (upF (upF (upF (upF (upF (upF (upF (upF (dvF 1) 2 (n + 1)) 3 (n + 2)) 4 (n + 3)) 5 (n + 4)) 6 (n + 5)) 7 (n + 6)) 8 (n + 7)) 0 x1) 1 x2), (21, 84, (fun _ => 0)), (21, 84, (fun _ => 0)), (21, 14, (fun _ => 0)), (21, 14, (fun _ => 0)), (21, 14, (fun _ => 0)), (21, 6, (fun _ => 0)), (21, 6, (fun _ => 0))]
theorem T_X1_init {G : GG} {d : Nat} {n x1 x2 : Int} {M0 M : MM} {Q : PV → MM → Prop} (hd : 1 ≤ d) (m0 : MEM n M0 [(1, ((kN 1 : Nat) : Int), dvF 1)] M) (h : ∀ M', MEM n M0 (cl_X1 n x1 x2) M' → Q vU M') : C G Y_X1_init d 7 222 [vA n, vA x1, vA x2] M Q := by
  refine C_X1_init (B_X1_init_0 (by omega) ?_)
  have n0 := m0.1.1
  have hd1 : 0 ≤ d - 1 := by omega
  have q_M : mN M = n + 1 := m0.1.2
  rw [q_M]
  refine ⟨n0, ?_⟩
  intro M2 eM2
  have mM2 : MEM n M0 ([(1, ((kN 1 : Nat) : Int), dvF 1), (21, 84, (fun _ => 0))]) M2 := m0.al eM2 rfl
  have q_M2 : mN M2 = n + 2 := mM2.1.2
  refine ⟨mM2.o 0 (Int.add_zero n).symm (Nat.le_of_ble_eq_true rfl) rfl, ?_⟩
  intro M4 eM4
  have mM4 : MEM n M0 ([(1, ((kN 1 : Nat) : Int), upF (dvF 1) 2 (n + 1)), (21, 84, (fun _ => 0))]) M4 := mM2.wr 0 eM4 (Int.add_zero n).symm rfl
  have q_M4 : mN M4 = n + 2 := mM4.1.2
  rw [q_M4]
  intro M5 eM5
  have mM5 : MEM n M0 ([(1, ((kN 1 : Nat) : Int), upF (dvF 1) 2 (n + 1)), (21, 84, (fun _ => 0)), (21, 84, (fun _ => 0))]) M5 := mM4.al eM5 rfl
  have q_M5 : mN M5 = n + 3 := mM5.1.2
  refine ⟨mM5.o 0 (Int.add_zero n).symm (Nat.le_of_ble_eq_true rfl) rfl, ?_⟩
  intro M7 eM7
  have mM7 : MEM n M0 ([(1, ((kN 1 : Nat) : Int), upF (upF (dvF 1) 2 (n + 1)) 3 (n + 2)), (21, 84, (fun _ => 0)), (21, 84, (fun _ => 0))]) M7 := mM5.wr 0 eM7 (Int.add_zero n).symm rfl
  have q_M7 : mN M7 = n + 3 := mM7.1.2
  rw [q_M7]
  intro M8 eM8
  have mM8 : MEM n M0 ([(1, ((kN 1 : Nat) : Int), upF (upF (dvF 1) 2 (n + 1)) 3 (n + 2)), (21, 84, (fun _ => 0)), (21, 84, (fun _ => 0)), (21, 14, (fun _ => 0))]) M8 := mM7.al eM8 rfl
  have q_M8 : mN M8 = n + 4 := mM8.1.2
  refine ⟨mM8.o 0 (Int.add_zero n).symm (Nat.le_of_ble_eq_true rfl) rfl, ?_⟩
  intro M10 eM10
  have mM10 : MEM n M0 ([(1, ((kN 1 : Nat) : Int), upF (upF (upF (dvF 1) 2 (n + 1)) 3 (n + 2)) 4 (n + 3)), (21, 84, (fun _ => 0)), (21, 84, (fun _ => 0)), (21, 14, (fun _ => 0))]) M10 := mM8.wr 0 eM10 (Int.add_zero n).symm rfl
  have q_M10 : mN M10 = n + 4 := mM10.1.2
  rw [q_M10]
  intro M11 eM11
  have mM11 : MEM n M0 ([(1, ((kN 1 : Nat) : Int), upF (upF (upF (dvF 1) 2 (n + 1)) 3 (n + 2)) 4 (n + 3)), (21, 84, (fun _ => 0)), (21, 84, (fun _ => 0)), (21, 14, (fun _ => 0)), (21, 14, (fun _ => 0))]) M11 := mM10.al eM11 rfl
  have q_M11 : mN M11 = n + 5 := mM11.1.2
  refine ⟨mM11.o 0 (Int.add_zero n).symm (Nat.le_of_ble_eq_true rfl) rfl, ?_⟩
  intro M13 eM13
  have mM13 : MEM n M0 ([(1, ((kN 1 : Nat) : Int), upF (upF (upF (upF (dvF 1) 2 (n + 1)) 3 (n + 2)) 4 (n + 3)) 5 (n + 4)), (21, 84, (fun _ => 0)), (21, 84, (fun _ => 0)), (21, 14, (fun _ => 0)), (21, 14, (fun _ => 0))]) M13 := mM11.wr 0 eM13 (Int.add_zero n).symm rfl
  have q_M13 : mN M13 = n + 5 := mM13.1.2
  rw [q_M13]
  intro M14 eM14
  have mM14 : MEM n M0 ([(1, ((kN 1 : Nat) : Int), upF (upF (upF (upF (dvF 1) 2 (n + 1)) 3 (n + 2)) 4 (n + 3)) 5 (n + 4)), (21, 84, (fun _ => 0)), (21, 84, (fun _ => 0)), (21, 14, (fun _ => 0)), (21, 14, (fun _ => 0)), (21, 14, (fun _ => 0))]) M14 := mM13.al eM14 rfl
  have q_M14 : mN M14 = n + 6 := mM14.1.2
  refine ⟨mM14.o 0 (Int.add_zero n).symm (Nat.le_of_ble_eq_true rfl) rfl, ?_⟩
  intro M16 eM16
  have mM16 : MEM n M0 ([(1, ((kN 1 : Nat) : Int), upF (upF (upF (upF (upF (dvF 1) 2 (n + 1)) 3 (n + 2)) 4 (n + 3)) 5 (n + 4)) 6 (n + 5)), (21, 84, (fun _ => 0)), (21, 84, (fun _ => 0)), (21, 14, (fun _ => 0)), (21, 14, (fun _ => 0)), (21, 14, (fun _ => 0))]) M16 := mM14.wr 0 eM16 (Int.add_zero n).symm rfl
  have q_M16 : mN M16 = n + 6 := mM16.1.2
  rw [q_M16]
  intro M17 eM17
  have mM17 : MEM n M0 ([(1, ((kN 1 : Nat) : Int), upF (upF (upF (upF (upF (dvF 1) 2 (n + 1)) 3 (n + 2)) 4 (n + 3)) 5 (n + 4)) 6 (n + 5)), (21, 84, (fun _ => 0)), (21, 84, (fun _ => 0)), (21, 14, (fun _ => 0)), (21, 14, (fun _ => 0)), (21, 14, (fun _ => 0)), (21, 6, (fun _ => 0))]) M17 := mM16.al eM17 rfl
  have q_M17 : mN M17 = n + 7 := mM17.1.2
  refine ⟨mM17.o 0 (Int.add_zero n).symm (Nat.le_of_ble_eq_true rfl) rfl, ?_⟩
  intro M19 eM19
  have mM19 : MEM n M0 ([(1, ((kN 1 : Nat) : Int), upF (upF (upF (upF (upF (upF (dvF 1) 2 (n + 1)) 3 (n + 2)) 4 (n + 3)) 5 (n + 4)) 6 (n + 5)) 7 (n + 6)), (21, 84, (fun _ => 0)), (21, 84, (fun _ => 0)), (21, 14, (fun _ => 0)), (21, 14, (fun _ => 0)), (21, 14, (fun _ => 0)), (21, 6, (fun _ => 0))]) M19 := mM17.wr 0 eM19 (Int.add_zero n).symm rfl
  have q_M19 : mN M19 = n + 7 := mM19.1.2
  rw [q_M19]
  intro M20 eM20
  have mM20 : MEM n M0 ([(1, ((kN 1 : Nat) : Int), upF (upF (upF (upF (upF (upF (dvF 1) 2 (n + 1)) 3 (n + 2)) 4 (n + 3)) 5 (n + 4)) 6 (n + 5)) 7 (n + 6)), (21, 84, (fun _ => 0)), (21, 84, (fun _ => 0)), (21, 14, (fun _ => 0)), (21, 14, (fun _ => 0)), (21, 14, (fun _ => 0)), (21, 6, (fun _ => 0)), (21, 6, (fun _ => 0))]) M20 := mM19.al eM20 rfl
  have q_M20 : mN M20 = n + 8 := mM20.1.2
  refine ⟨mM20.o 0 (Int.add_zero n).symm (Nat.le_of_ble_eq_true rfl) rfl, ?_⟩
  intro M22 eM22
  have mM22 : MEM n M0 ([(1, ((kN 1 : Nat) : Int), upF (upF (upF (upF (upF (upF (upF (dvF 1) 2 (n + 1)) 3 (n + 2)) 4 (n + 3)) 5 (n + 4)) 6 (n + 5)) 7 (n + 6)) 8 (n + 7)), (21, 84, (fun _ => 0)), (21, 84, (fun _ => 0)), (21, 14, (fun _ => 0)), (21, 14, (fun _ => 0)), (21, 14, (fun _ => 0)), (21, 6, (fun _ => 0)), (21, 6, (fun _ => 0))]) M22 := mM20.wr 0 eM22 (Int.add_zero n).symm rfl
  have q_M22 : mN M22 = n + 8 := mM22.1.2
  refine ⟨mM22.o 0 (Int.add_zero n).symm (Nat.le_of_ble_eq_true rfl) rfl, ?_⟩
  intro M24 eM24
  have mM24 : MEM n M0 ([(1, ((kN 1 : Nat) : Int), upF (upF (upF (upF (upF (upF (upF (upF (dvF 1) 2 (n + 1)) 3 (n + 2)) 4 (n + 3)) 5 (n + 4)) 6 (n + 5)) 7 (n + 6)) 8 (n + 7)) 0 x1), (21, 84, (fun _ => 0)), (21, 84, (fun _ => 0)), (21, 14, (fun _ => 0)), (21, 14, (fun _ => 0)), (21, 14, (fun _ => 0)), (21, 6, (fun _ => 0)), (21, 6, (fun _ => 0))]) M24 := mM22.wr 0 eM24 (Int.add_zero n).symm rfl
  have q_M24 : mN M24 = n + 8 := mM24.1.2
  refine ⟨mM24.o 0 (Int.add_zero n).symm (Nat.le_of_ble_eq_true rfl) rfl, ?_⟩
  intro M26 eM26
  have mM26 : MEM n M0 ([(1, ((kN 1 : Nat) : Int), upF (upF (upF (upF (upF (upF (upF (upF (upF (dvF 1) 2 (n + 1)) 3 (n + 2)) 4 (n + 3)) 5 (n + 4)) 6 (n + 5)) 7 (n + 6)) 8 (n + 7)) 0 x1) 1 x2), (21, 84, (fun _ => 0)), (21, 84, (fun _ => 0)), (21, 14, (fun _ => 0)), (21, 14, (fun _ => 0)), (21, 14, (fun _ => 0)), (21, 6, (fun _ => 0)), (21, 6, (fun _ => 0))]) M26 := mM24.wr 0 eM26 (Int.add_zero n).symm rfl
  have q_M26 : mN M26 = n + 8 := mM26.1.2
  exact h _ mM26

def cl_X10 (n x1 x2 x3 : Int) : List Cel := [(9, ((kN 9 : Nat) : Int), upF (upF (upF (upF (upF (upF (upF (upF (upF (upF (upF (upF (upF (dvF 9) 3 0) 4 (n + 1)) 5 (n + 2)) 6 (n + 3)) 7 0) 8 0) 9 0) 10 0) 11 0) 12 0) 0 x1) 1 x2) 2 x3), (20, 5, (fun _ => 0)), (20, 5, (fun _ => 0)), (20, 5, (fun _ => 0))]
theorem T_X10_init {G : GG} {d : Nat} {n x1 x2 x3 : Int} {M0 M : MM} {Q : PV → MM → Prop} (hd : 1 ≤ d) (m0 : MEM n M0 [(9, ((kN 9 : Nat) : Int), dvF 9)] M) (h : ∀ M', MEM n M0 (cl_X10 n x1 x2 x3) M' → Q vU M') : C G Y_X10_init d 3 15 [vA n, vA x1, vA x2, vA x3] M Q := by
  refine C_X10_init (B_X10_init_0 (by omega) ?_)
  have n0 := m0.1.1
  have hd1 : 0 ≤ d - 1 := by omega
  have q_M : mN M = n + 1 := m0.1.2
  refine ⟨n0, ?_⟩
  refine ⟨m0.o 0 (Int.add_zero n).symm (Nat.le_of_ble_eq_true rfl) rfl, ?_⟩
  intro M3 eM3
  have mM3 : MEM n M0 ([(9, ((kN 9 : Nat) : Int), upF (dvF 9) 3 0)]) M3 := m0.wr 0 eM3 (Int.add_zero n).symm rfl
  have q_M3 : mN M3 = n + 1 := mM3.1.2
  rw [q_M3]
  intro M4 eM4
  have mM4 : MEM n M0 ([(9, ((kN 9 : Nat) : Int), upF (dvF 9) 3 0), (20, 5, (fun _ => 0))]) M4 := mM3.al eM4 rfl
  have q_M4 : mN M4 = n + 2 := mM4.1.2
  refine ⟨mM4.o 0 (Int.add_zero n).symm (Nat.le_of_ble_eq_true rfl) rfl, ?_⟩
  intro M6 eM6
  have mM6 : MEM n M0 ([(9, ((kN 9 : Nat) : Int), upF (upF (dvF 9) 3 0) 4 (n + 1)), (20, 5, (fun _ => 0))]) M6 := mM4.wr 0 eM6 (Int.add_zero n).symm rfl
  have q_M6 : mN M6 = n + 2 := mM6.1.2
  rw [q_M6]
  intro M7 eM7
  have mM7 : MEM n M0 ([(9, ((kN 9 : Nat) : Int), upF (upF (dvF 9) 3 0) 4 (n + 1)), (20, 5, (fun _ => 0)), (20, 5, (fun _ => 0))]) M7 := mM6.al eM7 rfl
  have q_M7 : mN M7 = n + 3 := mM7.1.2
  refine ⟨mM7.o 0 (Int.add_zero n).symm (Nat.le_of_ble_eq_true rfl) rfl, ?_⟩
  intro M9 eM9
  have mM9 : MEM n M0 ([(9, ((kN 9 : Nat) : Int), upF (upF (upF (dvF 9) 3 0) 4 (n + 1)) 5 (n + 2)), (20, 5, (fun _ => 0)), (20, 5, (fun _ => 0))]) M9 := mM7.wr 0 eM9 (Int.add_zero n).symm rfl
  have q_M9 : mN M9 = n + 3 := mM9.1.2
  rw [q_M9]
  intro M10 eM10
  have mM10 : MEM n M0 ([(9, ((kN 9 : Nat) : Int), upF (upF (upF (dvF 9) 3 0) 4 (n + 1)) 5 (n + 2)), (20, 5, (fun _ => 0)), (20, 5, (fun _ => 0)), (20, 5, (fun _ => 0))]) M10 := mM9.al eM10 rfl
  have q_M10 : mN M10 = n + 4 := mM10.1.2
  refine ⟨mM10.o 0 (Int.add_zero n).symm (Nat.le_of_ble_eq_true rfl) rfl, ?_⟩
  intro M12 eM12
  have mM12 : MEM n M0 ([(9, ((kN 9 : Nat) : Int), upF (upF (upF (upF (dvF 9) 3 0) 4 (n + 1)) 5 (n + 2)) 6 (n + 3)), (20, 5, (fun _ => 0)), (20, 5, (fun _ => 0)), (20, 5, (fun _ => 0))]) M12 := mM10.wr 0 eM12 (Int.add_zero n).symm rfl
  have q_M12 : mN M12 = n + 4 := mM12.1.2
  refine ⟨mM12.o 0 (Int.add_zero n).symm (Nat.le_of_ble_eq_true rfl) rfl, ?_⟩
  intro M14 eM14
  have mM14 : MEM n M0 ([(9, ((kN 9 : Nat) : Int), upF (upF (upF (upF (upF (dvF 9) 3 0) 4 (n + 1)) 5 (n + 2)) 6 (n + 3)) 7 0), (20, 5, (fun _ => 0)), (20, 5, (fun _ => 0)), (20, 5, (fun _ => 0))]) M14 := mM12.wr 0 eM14 (Int.add_zero n).symm rfl
  have q_M14 : mN M14 = n + 4 := mM14.1.2
  refine ⟨mM14.o 0 (Int.add_zero n).symm (Nat.le_of_ble_eq_true rfl) rfl, ?_⟩
  intro M16 eM16
  have mM16 : MEM n M0 ([(9, ((kN 9 : Nat) : Int), upF (upF (upF (upF (upF (upF (dvF 9) 3 0) 4 (n + 1)) 5 (n + 2)) 6 (n + 3)) 7 0) 8 0), (20, 5, (fun _ => 0)), (20, 5, (fun _ => 0)), (20, 5, (fun _ => 0))]) M16 := mM14.wr 0 eM16 (Int.add_zero n).symm rfl
  have q_M16 : mN M16 = n + 4 := mM16.1.2
  refine ⟨mM16.o 0 (Int.add_zero n).symm (Nat.le_of_ble_eq_true rfl) rfl, ?_⟩
  intro M18 eM18
  have mM18 : MEM n M0 ([(9, ((kN 9 : Nat) : Int), upF (upF (upF (upF (upF (upF (upF (dvF 9) 3 0) 4 (n + 1)) 5 (n + 2)) 6 (n + 3)) 7 0) 8 0) 9 0), (20, 5, (fun _ => 0)), (20, 5, (fun _ => 0)), (20, 5, (fun _ => 0))]) M18 := mM16.wr 0 eM18 (Int.add_zero n).symm rfl
  have q_M18 : mN M18 = n + 4 := mM18.1.2
  refine ⟨mM18.o 0 (Int.add_zero n).symm (Nat.le_of_ble_eq_true rfl) rfl, ?_⟩
  intro M20 eM20
  have mM20 : MEM n M0 ([(9, ((kN 9 : Nat) : Int), upF (upF (upF (upF (upF (upF (upF (upF (dvF 9) 3 0) 4 (n + 1)) 5 (n + 2)) 6 (n + 3)) 7 0) 8 0) 9 0) 10 0), (20, 5, (fun _ => 0)), (20, 5, (fun _ => 0)), (20, 5, (fun _ => 0))]) M20 := mM18.wr 0 eM20 (Int.add_zero n).symm rfl
  have q_M20 : mN M20 = n + 4 := mM20.1.2
  refine ⟨mM20.o 0 (Int.add_zero n).symm (Nat.le_of_ble_eq_true rfl) rfl, ?_⟩
  intro M22 eM22
  have mM22 : MEM n M0 ([(9, ((kN 9 : Nat) : Int), upF (upF (upF (upF (upF (upF (upF (upF (upF (dvF 9) 3 0) 4 (n + 1)) 5 (n + 2)) 6 (n + 3)) 7 0) 8 0) 9 0) 10 0) 11 0), (20, 5, (fun _ => 0)), (20, 5, (fun _ => 0)), (20, 5, (fun _ => 0))]) M22 := mM20.wr 0 eM22 (Int.add_zero n).symm rfl
  have q_M22 : mN M22 = n + 4 := mM22.1.2
  refine ⟨mM22.o 0 (Int.add_zero n).symm (Nat.le_of_ble_eq_true rfl) rfl, ?_⟩
  intro M24 eM24
  have mM24 : MEM n M0 ([(9, ((kN 9 : Nat) : Int), upF (upF (upF (upF (upF (upF (upF (upF (upF (upF (dvF 9) 3 0) 4 (n + 1)) 5 (n + 2)) 6 (n + 3)) 7 0) 8 0) 9 0) 10 0) 11 0) 12 0), (20, 5, (fun _ => 0)), (20, 5, (fun _ => 0)), (20, 5, (fun _ => 0))]) M24 := mM22.wr 0 eM24 (Int.add_zero n).symm rfl
  have q_M24 : mN M24 = n + 4 := mM24.1.2
  refine ⟨mM24.o 0 (Int.add_zero n).symm (Nat.le_of_ble_eq_true rfl) rfl, ?_⟩
  intro M26 eM26
  have mM26 : MEM n M0 ([(9, ((kN 9 : Nat) : Int), upF (upF (upF (upF (upF (upF (upF (upF (upF (upF (upF (dvF 9) 3 0) 4 (n + 1)) 5 (n + 2)) 6 (n + 3)) 7 0) 8 0) 9 0) 10 0) 11 0) 12 0) 0 x1), (20, 5, (fun _ => 0)), (20, 5, (fun _ => 0)), (20, 5, (fun _ => 0))]) M26 := mM24.wr 0 eM26 (Int.add_zero n).symm rfl
  have q_M26 : mN M26 = n + 4 := mM26.1.2
  refine ⟨mM26.o 0 (Int.add_zero n).symm (Nat.le_of_ble_eq_true rfl) rfl, ?_⟩
  intro M28 eM28
  have mM28 : MEM n M0 ([(9, ((kN 9 : Nat) : Int), upF (upF (upF (upF (upF (upF (upF (upF (upF (upF (upF (upF (dvF 9) 3 0) 4 (n + 1)) 5 (n + 2)) 6 (n + 3)) 7 0) 8 0) 9 0) 10 0) 11 0) 12 0) 0 x1) 1 x2), (20, 5, (fun _ => 0)), (20, 5, (fun _ => 0)), (20, 5, (fun _ => 0))]) M28 := mM26.wr 0 eM28 (Int.add_zero n).symm rfl
  have q_M28 : mN M28 = n + 4 := mM28.1.2
  refine ⟨mM28.o 0 (Int.add_zero n).symm (Nat.le_of_ble_eq_true rfl) rfl, ?_⟩
  intro M30 eM30
  have mM30 : MEM n M0 ([(9, ((kN 9 : Nat) : Int), upF (upF (upF (upF (upF (upF (upF (upF (upF (upF (upF (upF (upF (dvF 9) 3 0) 4 (n + 1)) 5 (n + 2)) 6 (n + 3)) 7 0) 8 0) 9 0) 10 0) 11 0) 12 0) 0 x1) 1 x2) 2 x3), (20, 5, (fun _ => 0)), (20, 5, (fun _ => 0)), (20, 5, (fun _ => 0))]) M30 := mM28.wr 0 eM30 (Int.add_zero n).symm rfl
  have q_M30 : mN M30 = n + 4 := mM30.1.2
  exact h _ mM30

def cl_X12 (n : Int) : List Cel := [(11, ((kN 11 : Nat) : Int), upF (upF (upF (upF (upF (upF (upF (upF (upF (upF (upF (upF (upF (upF (upF (upF (upF (upF (upF (upF (upF (upF (upF (upF (upF (upF (upF (upF (upF (dvF 11) 2 (n + 1)) 3 (n + 2)) 4 (n + 3)) 5 (n + 4)) 7 (n + 5)) 13 (-1)) 16 (n + 6)) 18 (n + 7)) 19 (n + 8)) 21 (n + 9)) 22 (n + 10)) 25 (n + 11)) 27 (n + 12)) 28 (n + 13)) 32 (n + 14)) 33 (n + 15)) 34 (n + 16)) 35 (n + 17)) 36 (n + 18)) 37 (n + 19)) 38 (n + 20)) 39 (-1)) 40 (n + 21)) 42 (n + 22)) 45 (n + 23)) 46 (n + 24)) 49 (n + 25)) 52 (-1)) 53 (n + 26)), (20, 7, (fun _ => 0)), (20, 5460, upF (upF (upF (upF (upF (upF ((fun _ => 0)) 2 (-1)) 5 (-1)) 31 1) 34 1) 40 1) 42 120), (20, 10920, (fun _ => 0)), (22, 2, (fun _ => 0)), (20, 400, (fun _ => 0)), (20, 96, (fun _ => 0)), (20, 400, (fun _ => 0)), (20, 400, (fun _ => 0)), (20, 400, (fun _ => 0)), (20, 400, (fun _ => 0)), (21, 7, upF (upF (upF (upF (upF (upF (upF ((fun _ => 0)) 0 638548) 1 20026821) 2 72564293) 3 8553619) 4 16110) 5 446125701) 6 549512356), (21, 13, (fun _ => 0)), (21, 400, (fun _ => 0)), (21, 96768, (fun _ => 0)), (20, 6912, (fun _ => 0)), (21, 14, (fun _ => 0)), (21, 14, (fun _ => 0)), (21, 14, (fun _ => 0)), (21, 14, (fun _ => 0)), (21, 72, (fun _ => 0)), (20, 5, (fun _ => 0)), (20, 5, (fun _ => 0)), (21, 504, (fun _ => 0)), (21, 504, (fun _ => 0)), (20, 15, (fun _ => 0)), (20, 15, (fun _ => 0))]
theorem T_X12_init {G : GG} {d : Nat} {n : Int} {M0 M : MM} {Q : PV → MM → Prop} (hd : 1 ≤ d) (m0 : MEM n M0 [(11, ((kN 11 : Nat) : Int), dvF 11)] M) (h : ∀ M', MEM n M0 (cl_X12 n) M' → Q vU M') : C G Y_X12_init d 26 123761 [vA n] M Q := by
  refine C_X12_init (B_X12_init_0 (by omega) ?_)
  have n0 := m0.1.1
  have hd1 : 0 ≤ d - 1 := by omega
  have q_M : mN M = n + 1 := m0.1.2
  rw [q_M]
  refine ⟨n0, ?_⟩
  intro M2 eM2
  have mM2 : MEM n M0 ([(11, ((kN 11 : Nat) : Int), dvF 11), (20, 7, (fun _ => 0))]) M2 := m0.al eM2 rfl
  have q_M2 : mN M2 = n + 2 := mM2.1.2
  refine ⟨mM2.o 0 (Int.add_zero n).symm (Nat.le_of_ble_eq_true rfl) rfl, ?_⟩
  intro M4 eM4
  have mM4 : MEM n M0 ([(11, ((kN 11 : Nat) : Int), upF (dvF 11) 2 (n + 1)), (20, 7, (fun _ => 0))]) M4 := mM2.wr 0 eM4 (Int.add_zero n).symm rfl
  have q_M4 : mN M4 = n + 2 := mM4.1.2
  rw [q_M4]
  intro M5 eM5
  have mM5 : MEM n M0 ([(11, ((kN 11 : Nat) : Int), upF (dvF 11) 2 (n + 1)), (20, 7, (fun _ => 0)), (20, 5460, (fun _ => 0))]) M5 := mM4.al eM5 rfl
  have q_M5 : mN M5 = n + 3 := mM5.1.2
  refine ⟨mM5.o 0 (Int.add_zero n).symm (Nat.le_of_ble_eq_true rfl) rfl, ?_⟩
  intro M7 eM7
  have mM7 : MEM n M0 ([(11, ((kN 11 : Nat) : Int), upF (upF (dvF 11) 2 (n + 1)) 3 (n + 2)), (20, 7, (fun _ => 0)), (20, 5460, (fun _ => 0))]) M7 := mM5.wr 0 eM7 (Int.add_zero n).symm rfl
  have q_M7 : mN M7 = n + 3 := mM7.1.2
  rw [q_M7]
  intro M8 eM8
  have mM8 : MEM n M0 ([(11, ((kN 11 : Nat) : Int), upF (upF (dvF 11) 2 (n + 1)) 3 (n + 2)), (20, 7, (fun _ => 0)), (20, 5460, (fun _ => 0)), (20, 10920, (fun _ => 0))]) M8 := mM7.al eM8 rfl
  have q_M8 : mN M8 = n + 4 := mM8.1.2
  refine ⟨mM8.o 0 (Int.add_zero n).symm (Nat.le_of_ble_eq_true rfl) rfl, ?_⟩
  intro M10 eM10
  have mM10 : MEM n M0 ([(11, ((kN 11 : Nat) : Int), upF (upF (upF (dvF 11) 2 (n + 1)) 3 (n + 2)) 4 (n + 3)), (20, 7, (fun _ => 0)), (20, 5460, (fun _ => 0)), (20, 10920, (fun _ => 0))]) M10 := mM8.wr 0 eM10 (Int.add_zero n).symm rfl
  have q_M10 : mN M10 = n + 4 := mM10.1.2
  rw [q_M10]
  intro M11 eM11
  have mM11 : MEM n M0 ([(11, ((kN 11 : Nat) : Int), upF (upF (upF (dvF 11) 2 (n + 1)) 3 (n + 2)) 4 (n + 3)), (20, 7, (fun _ => 0)), (20, 5460, (fun _ => 0)), (20, 10920, (fun _ => 0)), (22, 2, (fun _ => 0))]) M11 := mM10.al eM11 rfl
  have q_M11 : mN M11 = n + 5 := mM11.1.2
  refine ⟨mM11.o 0 (Int.add_zero n).symm (Nat.le_of_ble_eq_true rfl) rfl, ?_⟩
  intro M13 eM13
  have mM13 : MEM n M0 ([(11, ((kN 11 : Nat) : Int), upF (upF (upF (upF (dvF 11) 2 (n + 1)) 3 (n + 2)) 4 (n + 3)) 5 (n + 4)), (20, 7, (fun _ => 0)), (20, 5460, (fun _ => 0)), (20, 10920, (fun _ => 0)), (22, 2, (fun _ => 0))]) M13 := mM11.wr 0 eM13 (Int.add_zero n).symm rfl
  have q_M13 : mN M13 = n + 5 := mM13.1.2
  rw [q_M13]
  intro M14 eM14
  have mM14 : MEM n M0 ([(11, ((kN 11 : Nat) : Int), upF (upF (upF (upF (dvF 11) 2 (n + 1)) 3 (n + 2)) 4 (n + 3)) 5 (n + 4)), (20, 7, (fun _ => 0)), (20, 5460, (fun _ => 0)), (20, 10920, (fun _ => 0)), (22, 2, (fun _ => 0)), (20, 400, (fun _ => 0))]) M14 := mM13.al eM14 rfl
  have q_M14 : mN M14 = n + 6 := mM14.1.2
  refine ⟨mM14.o 0 (Int.add_zero n).symm (Nat.le_of_ble_eq_true rfl) rfl, ?_⟩
  intro M16 eM16
  have mM16 : MEM n M0 ([(11, ((kN 11 : Nat) : Int), upF (upF (upF (upF (upF (dvF 11) 2 (n + 1)) 3 (n + 2)) 4 (n + 3)) 5 (n + 4)) 7 (n + 5)), (20, 7, (fun _ => 0)), (20, 5460, (fun _ => 0)), (20, 10920, (fun _ => 0)), (22, 2, (fun _ => 0)), (20, 400, (fun _ => 0))]) M16 := mM14.wr 0 eM16 (Int.add_zero n).symm rfl
  have q_M16 : mN M16 = n + 6 := mM16.1.2
  refine ⟨mM16.o 0 (Int.add_zero n).symm (Nat.le_of_ble_eq_true rfl) rfl, ?_⟩
  intro M18 eM18
  have mM18 : MEM n M0 ([(11, ((kN 11 : Nat) : Int), upF (upF (upF (upF (upF (upF (dvF 11) 2 (n + 1)) 3 (n + 2)) 4 (n + 3)) 5 (n + 4)) 7 (n + 5)) 13 (-1)), (20, 7, (fun _ => 0)), (20, 5460, (fun _ => 0)), (20, 10920, (fun _ => 0)), (22, 2, (fun _ => 0)), (20, 400, (fun _ => 0))]) M18 := mM16.wr 0 eM18 (Int.add_zero n).symm rfl
  have q_M18 : mN M18 = n + 6 := mM18.1.2
  rw [q_M18]
  intro M19 eM19
  have mM19 : MEM n M0 ([(11, ((kN 11 : Nat) : Int), upF (upF (upF (upF (upF (upF (dvF 11) 2 (n + 1)) 3 (n + 2)) 4 (n + 3)) 5 (n + 4)) 7 (n + 5)) 13 (-1)), (20, 7, (fun _ => 0)), (20, 5460, (fun _ => 0)), (20, 10920, (fun _ => 0)), (22, 2, (fun _ => 0)), (20, 400, (fun _ => 0)), (20, 96, (fun _ => 0))]) M19 := mM18.al eM19 rfl
  have q_M19 : mN M19 = n + 7 := mM19.1.2
  refine ⟨mM19.o 0 (Int.add_zero n).symm (Nat.le_of_ble_eq_true rfl) rfl, ?_⟩
  intro M21 eM21
  have mM21 : MEM n M0 ([(11, ((kN 11 : Nat) : Int), upF (upF (upF (upF (upF (upF (upF (dvF 11) 2 (n + 1)) 3 (n + 2)) 4 (n + 3)) 5 (n + 4)) 7 (n + 5)) 13 (-1)) 16 (n + 6)), (20, 7, (fun _ => 0)), (20, 5460, (fun _ => 0)), (20, 10920, (fun _ => 0)), (22, 2, (fun _ => 0)), (20, 400, (fun _ => 0)), (20, 96, (fun _ => 0))]) M21 := mM19.wr 0 eM21 (Int.add_zero n).symm rfl
  have q_M21 : mN M21 = n + 7 := mM21.1.2
  rw [q_M21]
  intro M22 eM22
  have mM22 : MEM n M0 ([(11, ((kN 11 : Nat) : Int), upF (upF (upF (upF (upF (upF (upF (dvF 11) 2 (n + 1)) 3 (n + 2)) 4 (n + 3)) 5 (n + 4)) 7 (n + 5)) 13 (-1)) 16 (n + 6)), (20, 7, (fun _ => 0)), (20, 5460, (fun _ => 0)), (20, 10920, (fun _ => 0)), (22, 2, (fun _ => 0)), (20, 400, (fun _ => 0)), (20, 96, (fun _ => 0)), (20, 400, (fun _ => 0))]) M22 := mM21.al eM22 rfl
  have q_M22 : mN M22 = n + 8 := mM22.1.2
  refine ⟨mM22.o 0 (Int.add_zero n).symm (Nat.le_of_ble_eq_true rfl) rfl, ?_⟩
  intro M24 eM24
  have mM24 : MEM n M0 ([(11, ((kN 11 : Nat) : Int), upF (upF (upF (upF (upF (upF (upF (upF (dvF 11) 2 (n + 1)) 3 (n + 2)) 4 (n + 3)) 5 (n + 4)) 7 (n + 5)) 13 (-1)) 16 (n + 6)) 18 (n + 7)), (20, 7, (fun _ => 0)), (20, 5460, (fun _ => 0)), (20, 10920, (fun _ => 0)), (22, 2, (fun _ => 0)), (20, 400, (fun _ => 0)), (20, 96, (fun _ => 0)), (20, 400, (fun _ => 0))]) M24 := mM22.wr 0 eM24 (Int.add_zero n).symm rfl
  have q_M24 : mN M24 = n + 8 := mM24.1.2
  rw [q_M24]
  intro M25 eM25
  have mM25 : MEM n M0 ([(11, ((kN 11 : Nat) : Int), upF (upF (upF (upF (upF (upF (upF (upF (dvF 11) 2 (n + 1)) 3 (n + 2)) 4 (n + 3)) 5 (n + 4)) 7 (n + 5)) 13 (-1)) 16 (n + 6)) 18 (n + 7)), (20, 7, (fun _ => 0)), (20, 5460, (fun _ => 0)), (20, 10920, (fun _ => 0)), (22, 2, (fun _ => 0)), (20, 400, (fun _ => 0)), (20, 96, (fun _ => 0)), (20, 400, (fun _ => 0)), (20, 400, (fun _ => 0))]) M25 := mM24.al eM25 rfl
  have q_M25 : mN M25 = n + 9 := mM25.1.2
  refine ⟨mM25.o 0 (Int.add_zero n).symm (Nat.le_of_ble_eq_true rfl) rfl, ?_⟩
  intro M27 eM27
  have mM27 : MEM n M0 ([(11, ((kN 11 : Nat) : Int), upF (upF (upF (upF (upF (upF (upF (upF (upF (dvF 11) 2 (n + 1)) 3 (n + 2)) 4 (n + 3)) 5 (n + 4)) 7 (n + 5)) 13 (-1)) 16 (n + 6)) 18 (n + 7)) 19 (n + 8)), (20, 7, (fun _ => 0)), (20, 5460, (fun _ => 0)), (20, 10920, (fun _ => 0)), (22, 2, (fun _ => 0)), (20, 400, (fun _ => 0)), (20, 96, (fun _ => 0)), (20, 400, (fun _ => 0)), (20, 400, (fun _ => 0))]) M27 := mM25.wr 0 eM27 (Int.add_zero n).symm rfl
  have q_M27 : mN M27 = n + 9 := mM27.1.2
  rw [q_M27]
  intro M28 eM28
  have mM28 : MEM n M0 ([(11, ((kN 11 : Nat) : Int), upF (upF (upF (upF (upF (upF (upF (upF (upF (dvF 11) 2 (n + 1)) 3 (n + 2)) 4 (n + 3)) 5 (n + 4)) 7 (n + 5)) 13 (-1)) 16 (n + 6)) 18 (n + 7)) 19 (n + 8)), (20, 7, (fun _ => 0)), (20, 5460, (fun _ => 0)), (20, 10920, (fun _ => 0)), (22, 2, (fun _ => 0)), (20, 400, (fun _ => 0)), (20, 96, (fun _ => 0)), (20, 400, (fun _ => 0)), (20, 400, (fun _ => 0)), (20, 400, (fun _ => 0))]) M28 := mM27.al eM28 rfl
  have q_M28 : mN M28 = n + 10 := mM28.1.2
  refine ⟨mM28.o 0 (Int.add_zero n).symm (Nat.le_of_ble_eq_true rfl) rfl, ?_⟩
  intro M30 eM30
  have mM30 : MEM n M0 ([(11, ((kN 11 : Nat) : Int), upF (upF (upF (upF (upF (upF (upF (upF (upF (upF (dvF 11) 2 (n + 1)) 3 (n + 2)) 4 (n + 3)) 5 (n + 4)) 7 (n + 5)) 13 (-1)) 16 (n + 6)) 18 (n + 7)) 19 (n + 8)) 21 (n + 9)), (20, 7, (fun _ => 0)), (20, 5460, (fun _ => 0)), (20, 10920, (fun _ => 0)), (22, 2, (fun _ => 0)), (20, 400, (fun _ => 0)), (20, 96, (fun _ => 0)), (20, 400, (fun _ => 0)), (20, 400, (fun _ => 0)), (20, 400, (fun _ => 0))]) M30 := mM28.wr 0 eM30 (Int.add_zero n).symm rfl
  have q_M30 : mN M30 = n + 10 := mM30.1.2
  rw [q_M30]
  intro M31 eM31
  have mM31 : MEM n M0 ([(11, ((kN 11 : Nat) : Int), upF (upF (upF (upF (upF (upF (upF (upF (upF (upF (dvF 11) 2 (n + 1)) 3 (n + 2)) 4 (n + 3)) 5 (n + 4)) 7 (n + 5)) 13 (-1)) 16 (n + 6)) 18 (n + 7)) 19 (n + 8)) 21 (n + 9)), (20, 7, (fun _ => 0)), (20, 5460, (fun _ => 0)), (20, 10920, (fun _ => 0)), (22, 2, (fun _ => 0)), (20, 400, (fun _ => 0)), (20, 96, (fun _ => 0)), (20, 400, (fun _ => 0)), (20, 400, (fun _ => 0)), (20, 400, (fun _ => 0)), (20, 400, (fun _ => 0))]) M31 := mM30.al eM31 rfl
  have q_M31 : mN M31 = n + 11 := mM31.1.2
  refine ⟨mM31.o 0 (Int.add_zero n).symm (Nat.le_of_ble_eq_true rfl) rfl, ?_⟩
  intro M33 eM33
  have mM33 : MEM n M0 ([(11, ((kN 11 : Nat) : Int), upF (upF (upF (upF (upF (upF (upF (upF (upF (upF (upF (dvF 11) 2 (n + 1)) 3 (n + 2)) 4 (n + 3)) 5 (n + 4)) 7 (n + 5)) 13 (-1)) 16 (n + 6)) 18 (n + 7)) 19 (n + 8)) 21 (n + 9)) 22 (n + 10)), (20, 7, (fun _ => 0)), (20, 5460, (fun _ => 0)), (20, 10920, (fun _ => 0)), (22, 2, (fun _ => 0)), (20, 400, (fun _ => 0)), (20, 96, (fun _ => 0)), (20, 400, (fun _ => 0)), (20, 400, (fun _ => 0)), (20, 400, (fun _ => 0)), (20, 400, (fun _ => 0))]) M33 := mM31.wr 0 eM33 (Int.add_zero n).symm rfl
  have q_M33 : mN M33 = n + 11 := mM33.1.2
  rw [q_M33]
  intro M34 eM34
  have mM34 : MEM n M0 ([(11, ((kN 11 : Nat) : Int), upF (upF (upF (upF (upF (upF (upF (upF (upF (upF (upF (dvF 11) 2 (n + 1)) 3 (n + 2)) 4 (n + 3)) 5 (n + 4)) 7 (n + 5)) 13 (-1)) 16 (n + 6)) 18 (n + 7)) 19 (n + 8)) 21 (n + 9)) 22 (n + 10)), (20, 7, (fun _ => 0)), (20, 5460, (fun _ => 0)), (20, 10920, (fun _ => 0)), (22, 2, (fun _ => 0)), (20, 400, (fun _ => 0)), (20, 96, (fun _ => 0)), (20, 400, (fun _ => 0)), (20, 400, (fun _ => 0)), (20, 400, (fun _ => 0)), (20, 400, (fun _ => 0)), (21, 7, (fun _ => 0))]) M34 := mM33.al eM34 rfl
  have q_M34 : mN M34 = n + 12 := mM34.1.2
  refine ⟨mM34.a 11 rfl (Nat.le_of_ble_eq_true rfl) rfl (by decide) (show (0 : Int) < 7 by decide), ?_⟩
  intro M36 eM36
  have mM36 : MEM n M0 ([(11, ((kN 11 : Nat) : Int), upF (upF (upF (upF (upF (upF (upF (upF (upF (upF (upF (dvF 11) 2 (n + 1)) 3 (n + 2)) 4 (n + 3)) 5 (n + 4)) 7 (n + 5)) 13 (-1)) 16 (n + 6)) 18 (n + 7)) 19 (n + 8)) 21 (n + 9)) 22 (n + 10)), (20, 7, (fun _ => 0)), (20, 5460, (fun _ => 0)), (20, 10920, (fun _ => 0)), (22, 2, (fun _ => 0)), (20, 400, (fun _ => 0)), (20, 96, (fun _ => 0)), (20, 400, (fun _ => 0)), (20, 400, (fun _ => 0)), (20, 400, (fun _ => 0)), (20, 400, (fun _ => 0)), (21, 7, upF ((fun _ => 0)) 0 638548)]) M36 := mM34.wr 11 eM36 rfl rfl
  have q_M36 : mN M36 = n + 12 := mM36.1.2
  refine ⟨mM36.a 11 rfl (Nat.le_of_ble_eq_true rfl) rfl (by decide) (show (1 : Int) < 7 by decide), ?_⟩
  intro M38 eM38
  have mM38 : MEM n M0 ([(11, ((kN 11 : Nat) : Int), upF (upF (upF (upF (upF (upF (upF (upF (upF (upF (upF (dvF 11) 2 (n + 1)) 3 (n + 2)) 4 (n + 3)) 5 (n + 4)) 7 (n + 5)) 13 (-1)) 16 (n + 6)) 18 (n + 7)) 19 (n + 8)) 21 (n + 9)) 22 (n + 10)), (20, 7, (fun _ => 0)), (20, 5460, (fun _ => 0)), (20, 10920, (fun _ => 0)), (22, 2, (fun _ => 0)), (20, 400, (fun _ => 0)), (20, 96, (fun _ => 0)), (20, 400, (fun _ => 0)), (20, 400, (fun _ => 0)), (20, 400, (fun _ => 0)), (20, 400, (fun _ => 0)), (21, 7, upF (upF ((fun _ => 0)) 0 638548) 1 20026821)]) M38 := mM36.wr 11 eM38 rfl rfl
  have q_M38 : mN M38 = n + 12 := mM38.1.2
  refine ⟨mM38.a 11 rfl (Nat.le_of_ble_eq_true rfl) rfl (by decide) (show (2 : Int) < 7 by decide), ?_⟩
  intro M40 eM40
  have mM40 : MEM n M0 ([(11, ((kN 11 : Nat) : Int), upF (upF (upF (upF (upF (upF (upF (upF (upF (upF (upF (dvF 11) 2 (n + 1)) 3 (n + 2)) 4 (n + 3)) 5 (n + 4)) 7 (n + 5)) 13 (-1)) 16 (n + 6)) 18 (n + 7)) 19 (n + 8)) 21 (n + 9)) 22 (n + 10)), (20, 7, (fun _ => 0)), (20, 5460, (fun _ => 0)), (20, 10920, (fun _ => 0)), (22, 2, (fun _ => 0)), (20, 400, (fun _ => 0)), (20, 96, (fun _ => 0)), (20, 400, (fun _ => 0)), (20, 400, (fun _ => 0)), (20, 400, (fun _ => 0)), (20, 400, (fun _ => 0)), (21, 7, upF (upF (upF ((fun _ => 0)) 0 638548) 1 20026821) 2 72564293)]) M40 := mM38.wr 11 eM40 rfl rfl
  have q_M40 : mN M40 = n + 12 := mM40.1.2
  refine ⟨mM40.a 11 rfl (Nat.le_of_ble_eq_true rfl) rfl (by decide) (show (3 : Int) < 7 by decide), ?_⟩
  intro M42 eM42
  have mM42 : MEM n M0 ([(11, ((kN 11 : Nat) : Int), upF (upF (upF (upF (upF (upF (upF (upF (upF (upF (upF (dvF 11) 2 (n + 1)) 3 (n + 2)) 4 (n + 3)) 5 (n + 4)) 7 (n + 5)) 13 (-1)) 16 (n + 6)) 18 (n + 7)) 19 (n + 8)) 21 (n + 9)) 22 (n + 10)), (20, 7, (fun _ => 0)), (20, 5460, (fun _ => 0)), (20, 10920, (fun _ => 0)), (22, 2, (fun _ => 0)), (20, 400, (fun _ => 0)), (20, 96, (fun _ => 0)), (20, 400, (fun _ => 0)), (20, 400, (fun _ => 0)), (20, 400, (fun _ => 0)), (20, 400, (fun _ => 0)), (21, 7, upF (upF (upF (upF ((fun _ => 0)) 0 638548) 1 20026821) 2 72564293) 3 8553619)]) M42 := mM40.wr 11 eM42 rfl rfl
  have q_M42 : mN M42 = n + 12 := mM42.1.2
  refine ⟨mM42.a 11 rfl (Nat.le_of_ble_eq_true rfl) rfl (by decide) (show (4 : Int) < 7 by decide), ?_⟩
  intro M44 eM44
  have mM44 : MEM n M0 ([(11, ((kN 11 : Nat) : Int), upF (upF (upF (upF (upF (upF (upF (upF (upF (upF (upF (dvF 11) 2 (n + 1)) 3 (n + 2)) 4 (n + 3)) 5 (n + 4)) 7 (n + 5)) 13 (-1)) 16 (n + 6)) 18 (n + 7)) 19 (n + 8)) 21 (n + 9)) 22 (n + 10)), (20, 7, (fun _ => 0)), (20, 5460, (fun _ => 0)), (20, 10920, (fun _ => 0)), (22, 2, (fun _ => 0)), (20, 400, (fun _ => 0)), (20, 96, (fun _ => 0)), (20, 400, (fun _ => 0)), (20, 400, (fun _ => 0)), (20, 400, (fun _ => 0)), (20, 400, (fun _ => 0)), (21, 7, upF (upF (upF (upF (upF ((fun _ => 0)) 0 638548) 1 20026821) 2 72564293) 3 8553619) 4 16110)]) M44 := mM42.wr 11 eM44 rfl rfl
  have q_M44 : mN M44 = n + 12 := mM44.1.2
  refine ⟨mM44.a 11 rfl (Nat.le_of_ble_eq_true rfl) rfl (by decide) (show (5 : Int) < 7 by decide), ?_⟩
  intro M46 eM46
  have mM46 : MEM n M0 ([(11, ((kN 11 : Nat) : Int), upF (upF (upF (upF (upF (upF (upF (upF (upF (upF (upF (dvF 11) 2 (n + 1)) 3 (n + 2)) 4 (n + 3)) 5 (n + 4)) 7 (n + 5)) 13 (-1)) 16 (n + 6)) 18 (n + 7)) 19 (n + 8)) 21 (n + 9)) 22 (n + 10)), (20, 7, (fun _ => 0)), (20, 5460, (fun _ => 0)), (20, 10920, (fun _ => 0)), (22, 2, (fun _ => 0)), (20, 400, (fun _ => 0)), (20, 96, (fun _ => 0)), (20, 400, (fun _ => 0)), (20, 400, (fun _ => 0)), (20, 400, (fun _ => 0)), (20, 400, (fun _ => 0)), (21, 7, upF (upF (upF (upF (upF (upF ((fun _ => 0)) 0 638548) 1 20026821) 2 72564293) 3 8553619) 4 16110) 5 446125701)]) M46 := mM44.wr 11 eM46 rfl rfl
  have q_M46 : mN M46 = n + 12 := mM46.1.2
  refine ⟨mM46.a 11 rfl (Nat.le_of_ble_eq_true rfl) rfl (by decide) (show (6 : Int) < 7 by decide), ?_⟩
  intro M48 eM48
  have mM48 : MEM n M0 ([(11, ((kN 11 : Nat) : Int), upF (upF (upF (upF (upF (upF (upF (upF (upF (upF (upF (dvF 11) 2 (n + 1)) 3 (n + 2)) 4 (n + 3)) 5 (n + 4)) 7 (n + 5)) 13 (-1)) 16 (n + 6)) 18 (n + 7)) 19 (n + 8)) 21 (n + 9)) 22 (n + 10)), (20, 7, (fun _ => 0)), (20, 5460, (fun _ => 0)), (20, 10920, (fun _ => 0)), (22, 2, (fun _ => 0)), (20, 400, (fun _ => 0)), (20, 96, (fun _ => 0)), (20, 400, (fun _ => 0)), (20, 400, (fun _ => 0)), (20, 400, (fun _ => 0)), (20, 400, (fun _ => 0)), (21, 7, upF (upF (upF (upF (upF (upF (upF ((fun _ => 0)) 0 638548) 1 20026821) 2 72564293) 3 8553619) 4 16110) 5 446125701) 6 549512356)]) M48 := mM46.wr 11 eM48 rfl rfl
  have q_M48 : mN M48 = n + 12 := mM48.1.2
  refine ⟨mM48.o 0 (Int.add_zero n).symm (Nat.le_of_ble_eq_true rfl) rfl, ?_⟩
  intro M50 eM50
  have mM50 : MEM n M0 ([(11, ((kN 11 : Nat) : Int), upF (upF (upF (upF (upF (upF (upF (upF (upF (upF (upF (upF (dvF 11) 2 (n + 1)) 3 (n + 2)) 4 (n + 3)) 5 (n + 4)) 7 (n + 5)) 13 (-1)) 16 (n + 6)) 18 (n + 7)) 19 (n + 8)) 21 (n + 9)) 22 (n + 10)) 25 (n + 11)), (20, 7, (fun _ => 0)), (20, 5460, (fun _ => 0)), (20, 10920, (fun _ => 0)), (22, 2, (fun _ => 0)), (20, 400, (fun _ => 0)), (20, 96, (fun _ => 0)), (20, 400, (fun _ => 0)), (20, 400, (fun _ => 0)), (20, 400, (fun _ => 0)), (20, 400, (fun _ => 0)), (21, 7, upF (upF (upF (upF (upF (upF (upF ((fun _ => 0)) 0 638548) 1 20026821) 2 72564293) 3 8553619) 4 16110) 5 446125701) 6 549512356)]) M50 := mM48.wr 0 eM50 (Int.add_zero n).symm rfl
  have q_M50 : mN M50 = n + 12 := mM50.1.2
  rw [q_M50]
  intro M51 eM51
  have mM51 : MEM n M0 ([(11, ((kN 11 : Nat) : Int), upF (upF (upF (upF (upF (upF (upF (upF (upF (upF (upF (upF (dvF 11) 2 (n + 1)) 3 (n + 2)) 4 (n + 3)) 5 (n + 4)) 7 (n + 5)) 13 (-1)) 16 (n + 6)) 18 (n + 7)) 19 (n + 8)) 21 (n + 9)) 22 (n + 10)) 25 (n + 11)), (20, 7, (fun _ => 0)), (20, 5460, (fun _ => 0)), (20, 10920, (fun _ => 0)), (22, 2, (fun _ => 0)), (20, 400, (fun _ => 0)), (20, 96, (fun _ => 0)), (20, 400, (fun _ => 0)), (20, 400, (fun _ => 0)), (20, 400, (fun _ => 0)), (20, 400, (fun _ => 0)), (21, 7, upF (upF (upF (upF (upF (upF (upF ((fun _ => 0)) 0 638548) 1 20026821) 2 72564293) 3 8553619) 4 16110) 5 446125701) 6 549512356), (21, 13, (fun _ => 0))]) M51 := mM50.al eM51 rfl
  have q_M51 : mN M51 = n + 13 := mM51.1.2
  refine ⟨mM51.o 0 (Int.add_zero n).symm (Nat.le_of_ble_eq_true rfl) rfl, ?_⟩
  intro M53 eM53
  have mM53 : MEM n M0 ([(11, ((kN 11 : Nat) : Int), upF (upF (upF (upF (upF (upF (upF (upF (upF (upF (upF (upF (upF (dvF 11) 2 (n + 1)) 3 (n + 2)) 4 (n + 3)) 5 (n + 4)) 7 (n + 5)) 13 (-1)) 16 (n + 6)) 18 (n + 7)) 19 (n + 8)) 21 (n + 9)) 22 (n + 10)) 25 (n + 11)) 27 (n + 12)), (20, 7, (fun _ => 0)), (20, 5460, (fun _ => 0)), (20, 10920, (fun _ => 0)), (22, 2, (fun _ => 0)), (20, 400, (fun _ => 0)), (20, 96, (fun _ => 0)), (20, 400, (fun _ => 0)), (20, 400, (fun _ => 0)), (20, 400, (fun _ => 0)), (20, 400, (fun _ => 0)), (21, 7, upF (upF (upF (upF (upF (upF (upF ((fun _ => 0)) 0 638548) 1 20026821) 2 72564293) 3 8553619) 4 16110) 5 446125701) 6 549512356), (21, 13, (fun _ => 0))]) M53 := mM51.wr 0 eM53 (Int.add_zero n).symm rfl
  have q_M53 : mN M53 = n + 13 := mM53.1.2
  rw [q_M53]
  intro M54 eM54
  have mM54 : MEM n M0 ([(11, ((kN 11 : Nat) : Int), upF (upF (upF (upF (upF (upF (upF (upF (upF (upF (upF (upF (upF (dvF 11) 2 (n + 1)) 3 (n + 2)) 4 (n + 3)) 5 (n + 4)) 7 (n + 5)) 13 (-1)) 16 (n + 6)) 18 (n + 7)) 19 (n + 8)) 21 (n + 9)) 22 (n + 10)) 25 (n + 11)) 27 (n + 12)), (20, 7, (fun _ => 0)), (20, 5460, (fun _ => 0)), (20, 10920, (fun _ => 0)), (22, 2, (fun _ => 0)), (20, 400, (fun _ => 0)), (20, 96, (fun _ => 0)), (20, 400, (fun _ => 0)), (20, 400, (fun _ => 0)), (20, 400, (fun _ => 0)), (20, 400, (fun _ => 0)), (21, 7, upF (upF (upF (upF (upF (upF (upF ((fun _ => 0)) 0 638548) 1 20026821) 2 72564293) 3 8553619) 4 16110) 5 446125701) 6 549512356), (21, 13, (fun _ => 0)), (21, 400, (fun _ => 0))]) M54 := mM53.al eM54 rfl
  have q_M54 : mN M54 = n + 14 := mM54.1.2
  refine ⟨mM54.o 0 (Int.add_zero n).symm (Nat.le_of_ble_eq_true rfl) rfl, ?_⟩
  intro M56 eM56
  have mM56 : MEM n M0 ([(11, ((kN 11 : Nat) : Int), upF (upF (upF (upF (upF (upF (upF (upF (upF (upF (upF (upF (upF (upF (dvF 11) 2 (n + 1)) 3 (n + 2)) 4 (n + 3)) 5 (n + 4)) 7 (n + 5)) 13 (-1)) 16 (n + 6)) 18 (n + 7)) 19 (n + 8)) 21 (n + 9)) 22 (n + 10)) 25 (n + 11)) 27 (n + 12)) 28 (n + 13)), (20, 7, (fun _ => 0)), (20, 5460, (fun _ => 0)), (20, 10920, (fun _ => 0)), (22, 2, (fun _ => 0)), (20, 400, (fun _ => 0)), (20, 96, (fun _ => 0)), (20, 400, (fun _ => 0)), (20, 400, (fun _ => 0)), (20, 400, (fun _ => 0)), (20, 400, (fun _ => 0)), (21, 7, upF (upF (upF (upF (upF (upF (upF ((fun _ => 0)) 0 638548) 1 20026821) 2 72564293) 3 8553619) 4 16110) 5 446125701) 6 549512356), (21, 13, (fun _ => 0)), (21, 400, (fun _ => 0))]) M56 := mM54.wr 0 eM56 (Int.add_zero n).symm rfl
  have q_M56 : mN M56 = n + 14 := mM56.1.2
  rw [q_M56]
  intro M57 eM57
  have mM57 : MEM n M0 ([(11, ((kN 11 : Nat) : Int), upF (upF (upF (upF (upF (upF (upF (upF (upF (upF (upF (upF (upF (upF (dvF 11) 2 (n + 1)) 3 (n + 2)) 4 (n + 3)) 5 (n + 4)) 7 (n + 5)) 13 (-1)) 16 (n + 6)) 18 (n + 7)) 19 (n + 8)) 21 (n + 9)) 22 (n + 10)) 25 (n + 11)) 27 (n + 12)) 28 (n + 13)), (20, 7, (fun _ => 0)), (20, 5460, (fun _ => 0)), (20, 10920, (fun _ => 0)), (22, 2, (fun _ => 0)), (20, 400, (fun _ => 0)), (20, 96, (fun _ => 0)), (20, 400, (fun _ => 0)), (20, 400, (fun _ => 0)), (20, 400, (fun _ => 0)), (20, 400, (fun _ => 0)), (21, 7, upF (upF (upF (upF (upF (upF (upF ((fun _ => 0)) 0 638548) 1 20026821) 2 72564293) 3 8553619) 4 16110) 5 446125701) 6 549512356), (21, 13, (fun _ => 0)), (21, 400, (fun _ => 0)), (21, 96768, (fun _ => 0))]) M57 := mM56.al eM57 rfl
  have q_M57 : mN M57 = n + 15 := mM57.1.2
  refine ⟨mM57.o 0 (Int.add_zero n).symm (Nat.le_of_ble_eq_true rfl) rfl, ?_⟩
  intro M59 eM59
  have mM59 : MEM n M0 ([(11, ((kN 11 : Nat) : Int), upF (upF (upF (upF (upF (upF (upF (upF (upF (upF (upF (upF (upF (upF (upF (dvF 11) 2 (n + 1)) 3 (n + 2)) 4 (n + 3)) 5 (n + 4)) 7 (n + 5)) 13 (-1)) 16 (n + 6)) 18 (n + 7)) 19 (n + 8)) 21 (n + 9)) 22 (n + 10)) 25 (n + 11)) 27 (n + 12)) 28 (n + 13)) 32 (n + 14)), (20, 7, (fun _ => 0)), (20, 5460, (fun _ => 0)), (20, 10920, (fun _ => 0)), (22, 2, (fun _ => 0)), (20, 400, (fun _ => 0)), (20, 96, (fun _ => 0)), (20, 400, (fun _ => 0)), (20, 400, (fun _ => 0)), (20, 400, (fun _ => 0)), (20, 400, (fun _ => 0)), (21, 7, upF (upF (upF (upF (upF (upF (upF ((fun _ => 0)) 0 638548) 1 20026821) 2 72564293) 3 8553619) 4 16110) 5 446125701) 6 549512356), (21, 13, (fun _ => 0)), (21, 400, (fun _ => 0)), (21, 96768, (fun _ => 0))]) M59 := mM57.wr 0 eM59 (Int.add_zero n).symm rfl
  have q_M59 : mN M59 = n + 15 := mM59.1.2
  rw [q_M59]
  intro M60 eM60
  have mM60 : MEM n M0 ([(11, ((kN 11 : Nat) : Int), upF (upF (upF (upF (upF (upF (upF (upF (upF (upF (upF (upF (upF (upF (upF (dvF 11) 2 (n + 1)) 3 (n + 2)) 4 (n + 3)) 5 (n + 4)) 7 (n + 5)) 13 (-1)) 16 (n + 6)) 18 (n + 7)) 19 (n + 8)) 21 (n + 9)) 22 (n + 10)) 25 (n + 11)) 27 (n + 12)) 28 (n + 13)) 32 (n + 14)), (20, 7, (fun _ => 0)), (20, 5460, (fun _ => 0)), (20, 10920, (fun _ => 0)), (22, 2, (fun _ => 0)), (20, 400, (fun _ => 0)), (20, 96, (fun _ => 0)), (20, 400, (fun _ => 0)), (20, 400, (fun _ => 0)), (20, 400, (fun _ => 0)), (20, 400, (fun _ => 0)), (21, 7, upF (upF (upF (upF (upF (upF (upF ((fun _ => 0)) 0 638548) 1 20026821) 2 72564293) 3 8553619) 4 16110) 5 446125701) 6 549512356), (21, 13, (fun _ => 0)), (21, 400, (fun _ => 0)), (21, 96768, (fun _ => 0)), (20, 6912, (fun _ => 0))]) M60 := mM59.al eM60 rfl
  have q_M60 : mN M60 = n + 16 := mM60.1.2
  refine ⟨mM60.o 0 (Int.add_zero n).symm (Nat.le_of_ble_eq_true rfl) rfl, ?_⟩
  intro M62 eM62
  have mM62 : MEM n M0 ([(11, ((kN 11 : Nat) : Int), upF (upF (upF (upF (upF (upF (upF (upF (upF (upF (upF (upF (upF (upF (upF (upF (dvF 11) 2 (n + 1)) 3 (n + 2)) 4 (n + 3)) 5 (n + 4)) 7 (n + 5)) 13 (-1)) 16 (n + 6)) 18 (n + 7)) 19 (n + 8)) 21 (n + 9)) 22 (n + 10)) 25 (n + 11)) 27 (n + 12)) 28 (n + 13)) 32 (n + 14)) 33 (n + 15)), (20, 7, (fun _ => 0)), (20, 5460, (fun _ => 0)), (20, 10920, (fun _ => 0)), (22, 2, (fun _ => 0)), (20, 400, (fun _ => 0)), (20, 96, (fun _ => 0)), (20, 400, (fun _ => 0)), (20, 400, (fun _ => 0)), (20, 400, (fun _ => 0)), (20, 400, (fun _ => 0)), (21, 7, upF (upF (upF (upF (upF (upF (upF ((fun _ => 0)) 0 638548) 1 20026821) 2 72564293) 3 8553619) 4 16110) 5 446125701) 6 549512356), (21, 13, (fun _ => 0)), (21, 400, (fun _ => 0)), (21, 96768, (fun _ => 0)), (20, 6912, (fun _ => 0))]) M62 := mM60.wr 0 eM62 (Int.add_zero n).symm rfl
  have q_M62 : mN M62 = n + 16 := mM62.1.2
  rw [q_M62]
  intro M63 eM63
  have mM63 : MEM n M0 ([(11, ((kN 11 : Nat) : Int), upF (upF (upF (upF (upF (upF (upF (upF (upF (upF (upF (upF (upF (upF (upF (upF (dvF 11) 2 (n + 1)) 3 (n + 2)) 4 (n + 3)) 5 (n + 4)) 7 (n + 5)) 13 (-1)) 16 (n + 6)) 18 (n + 7)) 19 (n + 8)) 21 (n + 9)) 22 (n + 10)) 25 (n + 11)) 27 (n + 12)) 28 (n + 13)) 32 (n + 14)) 33 (n + 15)), (20, 7, (fun _ => 0)), (20, 5460, (fun _ => 0)), (20, 10920, (fun _ => 0)), (22, 2, (fun _ => 0)), (20, 400, (fun _ => 0)), (20, 96, (fun _ => 0)), (20, 400, (fun _ => 0)), (20, 400, (fun _ => 0)), (20, 400, (fun _ => 0)), (20, 400, (fun _ => 0)), (21, 7, upF (upF (upF (upF (upF (upF (upF ((fun _ => 0)) 0 638548) 1 20026821) 2 72564293) 3 8553619) 4 16110) 5 446125701) 6 549512356), (21, 13, (fun _ => 0)), (21, 400, (fun _ => 0)), (21, 96768, (fun _ => 0)), (20, 6912, (fun _ => 0)), (21, 14, (fun _ => 0))]) M63 := mM62.al eM63 rfl
  have q_M63 : mN M63 = n + 17 := mM63.1.2
  refine ⟨mM63.o 0 (Int.add_zero n).symm (Nat.le_of_ble_eq_true rfl) rfl, ?_⟩
  intro M65 eM65
  have mM65 : MEM n M0 ([(11, ((kN 11 : Nat) : Int), upF (upF (upF (upF (upF (upF (upF (upF (upF (upF (upF (upF (upF (upF (upF (upF (upF (dvF 11) 2 (n + 1)) 3 (n + 2)) 4 (n + 3)) 5 (n + 4)) 7 (n + 5)) 13 (-1)) 16 (n + 6)) 18 (n + 7)) 19 (n + 8)) 21 (n + 9)) 22 (n + 10)) 25 (n + 11)) 27 (n + 12)) 28 (n + 13)) 32 (n + 14)) 33 (n + 15)) 34 (n + 16)), (20, 7, (fun _ => 0)), (20, 5460, (fun _ => 0)), (20, 10920, (fun _ => 0)), (22, 2, (fun _ => 0)), (20, 400, (fun _ => 0)), (20, 96, (fun _ => 0)), (20, 400, (fun _ => 0)), (20, 400, (fun _ => 0)), (20, 400, (fun _ => 0)), (20, 400, (fun _ => 0)), (21, 7, upF (upF (upF (upF (upF (upF (upF ((fun _ => 0)) 0 638548) 1 20026821) 2 72564293) 3 8553619) 4 16110) 5 446125701) 6 549512356), (21, 13, (fun _ => 0)), (21, 400, (fun _ => 0)), (21, 96768, (fun _ => 0)), (20, 6912, (fun _ => 0)), (21, 14, (fun _ => 0))]) M65 := mM63.wr 0 eM65 (Int.add_zero n).symm rfl
  have q_M65 : mN M65 = n + 17 := mM65.1.2
  rw [q_M65]
  intro M66 eM66
  have mM66 : MEM n M0 ([(11, ((kN 11 : Nat) : Int), upF (upF (upF (upF (upF (upF (upF (upF (upF (upF (upF (upF (upF (upF (upF (upF (upF (dvF 11) 2 (n + 1)) 3 (n + 2)) 4 (n + 3)) 5 (n + 4)) 7 (n + 5)) 13 (-1)) 16 (n + 6)) 18 (n + 7)) 19 (n + 8)) 21 (n + 9)) 22 (n + 10)) 25 (n + 11)) 27 (n + 12)) 28 (n + 13)) 32 (n + 14)) 33 (n + 15)) 34 (n + 16)), (20, 7, (fun _ => 0)), (20, 5460, (fun _ => 0)), (20, 10920, (fun _ => 0)), (22, 2, (fun _ => 0)), (20, 400, (fun _ => 0)), (20, 96, (fun _ => 0)), (20, 400, (fun _ => 0)), (20, 400, (fun _ => 0)), (20, 400, (fun _ => 0)), (20, 400, (fun _ => 0)), (21, 7, upF (upF (upF (upF (upF (upF (upF ((fun _ => 0)) 0 638548) 1 20026821) 2 72564293) 3 8553619) 4 16110) 5 446125701) 6 549512356), (21, 13, (fun _ => 0)), (21, 400, (fun _ => 0)), (21, 96768, (fun _ => 0)), (20, 6912, (fun _ => 0)), (21, 14, (fun _ => 0)), (21, 14, (fun _ => 0))]) M66 := mM65.al eM66 rfl
  have q_M66 : mN M66 = n + 18 := mM66.1.2
  refine ⟨mM66.o 0 (Int.add_zero n).symm (Nat.le_of_ble_eq_true rfl) rfl, ?_⟩
  intro M68 eM68
  have mM68 : MEM n M0 ([(11, ((kN 11 : Nat) : Int), upF (upF (upF (upF (upF (upF (upF (upF (upF (upF (upF (upF (upF (upF (upF (upF (upF (upF (dvF 11) 2 (n + 1)) 3 (n + 2)) 4 (n + 3)) 5 (n + 4)) 7 (n + 5)) 13 (-1)) 16 (n + 6)) 18 (n + 7)) 19 (n + 8)) 21 (n + 9)) 22 (n + 10)) 25 (n + 11)) 27 (n + 12)) 28 (n + 13)) 32 (n + 14)) 33 (n + 15)) 34 (n + 16)) 35 (n + 17)), (20, 7, (fun _ => 0)), (20, 5460, (fun _ => 0)), (20, 10920, (fun _ => 0)), (22, 2, (fun _ => 0)), (20, 400, (fun _ => 0)), (20, 96, (fun _ => 0)), (20, 400, (fun _ => 0)), (20, 400, (fun _ => 0)), (20, 400, (fun _ => 0)), (20, 400, (fun _ => 0)), (21, 7, upF (upF (upF (upF (upF (upF (upF ((fun _ => 0)) 0 638548) 1 20026821) 2 72564293) 3 8553619) 4 16110) 5 446125701) 6 549512356), (21, 13, (fun _ => 0)), (21, 400, (fun _ => 0)), (21, 96768, (fun _ => 0)), (20, 6912, (fun _ => 0)), (21, 14, (fun _ => 0)), (21, 14, (fun _ => 0))]) M68 := mM66.wr 0 eM68 (Int.add_zero n).symm rfl
  have q_M68 : mN M68 = n + 18 := mM68.1.2
  rw [q_M68]
  intro M69 eM69
  have mM69 : MEM n M0 ([(11, ((kN 11 : Nat) : Int), upF (upF (upF (upF (upF (upF (upF (upF (upF (upF (upF (upF (upF (upF (upF (upF (upF (upF (dvF 11) 2 (n + 1)) 3 (n + 2)) 4 (n + 3)) 5 (n + 4)) 7 (n + 5)) 13 (-1)) 16 (n + 6)) 18 (n + 7)) 19 (n + 8)) 21 (n + 9)) 22 (n + 10)) 25 (n + 11)) 27 (n + 12)) 28 (n + 13)) 32 (n + 14)) 33 (n + 15)) 34 (n + 16)) 35 (n + 17)), (20, 7, (fun _ => 0)), (20, 5460, (fun _ => 0)), (20, 10920, (fun _ => 0)), (22, 2, (fun _ => 0)), (20, 400, (fun _ => 0)), (20, 96, (fun _ => 0)), (20, 400, (fun _ => 0)), (20, 400, (fun _ => 0)), (20, 400, (fun _ => 0)), (20, 400, (fun _ => 0)), (21, 7, upF (upF (upF (upF (upF (upF (upF ((fun _ => 0)) 0 638548) 1 20026821) 2 72564293) 3 8553619) 4 16110) 5 446125701) 6 549512356), (21, 13, (fun _ => 0)), (21, 400, (fun _ => 0)), (21, 96768, (fun _ => 0)), (20, 6912, (fun _ => 0)), (21, 14, (fun _ => 0)), (21, 14, (fun _ => 0)), (21, 14, (fun _ => 0))]) M69 := mM68.al eM69 rfl
  have q_M69 : mN M69 = n + 19 := mM69.1.2
  refine ⟨mM69.o 0 (Int.add_zero n).symm (Nat.le_of_ble_eq_true rfl) rfl, ?_⟩
  intro M71 eM71
  have mM71 : MEM n M0 ([(11, ((kN 11 : Nat) : Int), upF (upF (upF (upF (upF (upF (upF (upF (upF (upF (upF (upF (upF (upF (upF (upF (upF (upF (upF (dvF 11) 2 (n + 1)) 3 (n + 2)) 4 (n + 3)) 5 (n + 4)) 7 (n + 5)) 13 (-1)) 16 (n + 6)) 18 (n + 7)) 19 (n + 8)) 21 (n + 9)) 22 (n + 10)) 25 (n + 11)) 27 (n + 12)) 28 (n + 13)) 32 (n + 14)) 33 (n + 15)) 34 (n + 16)) 35 (n + 17)) 36 (n + 18)), (20, 7, (fun _ => 0)), (20, 5460, (fun _ => 0)), (20, 10920, (fun _ => 0)), (22, 2, (fun _ => 0)), (20, 400, (fun _ => 0)), (20, 96, (fun _ => 0)), (20, 400, (fun _ => 0)), (20, 400, (fun _ => 0)), (20, 400, (fun _ => 0)), (20, 400, (fun _ => 0)), (21, 7, upF (upF (upF (upF (upF (upF (upF ((fun _ => 0)) 0 638548) 1 20026821) 2 72564293) 3 8553619) 4 16110) 5 446125701) 6 549512356), (21, 13, (fun _ => 0)), (21, 400, (fun _ => 0)), (21, 96768, (fun _ => 0)), (20, 6912, (fun _ => 0)), (21, 14, (fun _ => 0)), (21, 14, (fun _ => 0)), (21, 14, (fun _ => 0))]) M71 := mM69.wr 0 eM71 (Int.add_zero n).symm rfl
  have q_M71 : mN M71 = n + 19 := mM71.1.2
  rw [q_M71]
  intro M72 eM72
  have mM72 : MEM n M0 ([(11, ((kN 11 : Nat) : Int), upF (upF (upF (upF (upF (upF (upF (upF (upF (upF (upF (upF (upF (upF (upF (upF (upF (upF (upF (dvF 11) 2 (n + 1)) 3 (n + 2)) 4 (n + 3)) 5 (n + 4)) 7 (n + 5)) 13 (-1)) 16 (n + 6)) 18 (n + 7)) 19 (n + 8)) 21 (n + 9)) 22 (n + 10)) 25 (n + 11)) 27 (n + 12)) 28 (n + 13)) 32 (n + 14)) 33 (n + 15)) 34 (n + 16)) 35 (n + 17)) 36 (n + 18)), (20, 7, (fun _ => 0)), (20, 5460, (fun _ => 0)), (20, 10920, (fun _ => 0)), (22, 2, (fun _ => 0)), (20, 400, (fun _ => 0)), (20, 96, (fun _ => 0)), (20, 400, (fun _ => 0)), (20, 400, (fun _ => 0)), (20, 400, (fun _ => 0)), (20, 400, (fun _ => 0)), (21, 7, upF (upF (upF (upF (upF (upF (upF ((fun _ => 0)) 0 638548) 1 20026821) 2 72564293) 3 8553619) 4 16110) 5 446125701) 6 549512356), (21, 13, (fun _ => 0)), (21, 400, (fun _ => 0)), (21, 96768, (fun _ => 0)), (20, 6912, (fun _ => 0)), (21, 14, (fun _ => 0)), (21, 14, (fun _ => 0)), (21, 14, (fun _ => 0)), (21, 14, (fun _ => 0))]) M72 := mM71.al eM72 rfl
  have q_M72 : mN M72 = n + 20 := mM72.1.2
  refine ⟨mM72.o 0 (Int.add_zero n).symm (Nat.le_of_ble_eq_true rfl) rfl, ?_⟩
  intro M74 eM74
  have mM74 : MEM n M0 ([(11, ((kN 11 : Nat) : Int), upF (upF (upF (upF (upF (upF (upF (upF (upF (upF (upF (upF (upF (upF (upF (upF (upF (upF (upF (upF (dvF 11) 2 (n + 1)) 3 (n + 2)) 4 (n + 3)) 5 (n + 4)) 7 (n + 5)) 13 (-1)) 16 (n + 6)) 18 (n + 7)) 19 (n + 8)) 21 (n + 9)) 22 (n + 10)) 25 (n + 11)) 27 (n + 12)) 28 (n + 13)) 32 (n + 14)) 33 (n + 15)) 34 (n + 16)) 35 (n + 17)) 36 (n + 18)) 37 (n + 19)), (20, 7, (fun _ => 0)), (20, 5460, (fun _ => 0)), (20, 10920, (fun _ => 0)), (22, 2, (fun _ => 0)), (20, 400, (fun _ => 0)), (20, 96, (fun _ => 0)), (20, 400, (fun _ => 0)), (20, 400, (fun _ => 0)), (20, 400, (fun _ => 0)), (20, 400, (fun _ => 0)), (21, 7, upF (upF (upF (upF (upF (upF (upF ((fun _ => 0)) 0 638548) 1 20026821) 2 72564293) 3 8553619) 4 16110) 5 446125701) 6 549512356), (21, 13, (fun _ => 0)), (21, 400, (fun _ => 0)), (21, 96768, (fun _ => 0)), (20, 6912, (fun _ => 0)), (21, 14, (fun _ => 0)), (21, 14, (fun _ => 0)), (21, 14, (fun _ => 0)), (21, 14, (fun _ => 0))]) M74 := mM72.wr 0 eM74 (Int.add_zero n).symm rfl
  have q_M74 : mN M74 = n + 20 := mM74.1.2
  rw [q_M74]
  intro M75 eM75
  have mM75 : MEM n M0 ([(11, ((kN 11 : Nat) : Int), upF (upF (upF (upF (upF (upF (upF (upF (upF (upF (upF (upF (upF (upF (upF (upF (upF (upF (upF (upF (dvF 11) 2 (n + 1)) 3 (n + 2)) 4 (n + 3)) 5 (n + 4)) 7 (n + 5)) 13 (-1)) 16 (n + 6)) 18 (n + 7)) 19 (n + 8)) 21 (n + 9)) 22 (n + 10)) 25 (n + 11)) 27 (n + 12)) 28 (n + 13)) 32 (n + 14)) 33 (n + 15)) 34 (n + 16)) 35 (n + 17)) 36 (n + 18)) 37 (n + 19)), (20, 7, (fun _ => 0)), (20, 5460, (fun _ => 0)), (20, 10920, (fun _ => 0)), (22, 2, (fun _ => 0)), (20, 400, (fun _ => 0)), (20, 96, (fun _ => 0)), (20, 400, (fun _ => 0)), (20, 400, (fun _ => 0)), (20, 400, (fun _ => 0)), (20, 400, (fun _ => 0)), (21, 7, upF (upF (upF (upF (upF (upF (upF ((fun _ => 0)) 0 638548) 1 20026821) 2 72564293) 3 8553619) 4 16110) 5 446125701) 6 549512356), (21, 13, (fun _ => 0)), (21, 400, (fun _ => 0)), (21, 96768, (fun _ => 0)), (20, 6912, (fun _ => 0)), (21, 14, (fun _ => 0)), (21, 14, (fun _ => 0)), (21, 14, (fun _ => 0)), (21, 14, (fun _ => 0)), (21, 72, (fun _ => 0))]) M75 := mM74.al eM75 rfl
  have q_M75 : mN M75 = n + 21 := mM75.1.2
  refine ⟨mM75.o 0 (Int.add_zero n).symm (Nat.le_of_ble_eq_true rfl) rfl, ?_⟩
  intro M77 eM77
  have mM77 : MEM n M0 ([(11, ((kN 11 : Nat) : Int), upF (upF (upF (upF (upF (upF (upF (upF (upF (upF (upF (upF (upF (upF (upF (upF (upF (upF (upF (upF (upF (dvF 11) 2 (n + 1)) 3 (n + 2)) 4 (n + 3)) 5 (n + 4)) 7 (n + 5)) 13 (-1)) 16 (n + 6)) 18 (n + 7)) 19 (n + 8)) 21 (n + 9)) 22 (n + 10)) 25 (n + 11)) 27 (n + 12)) 28 (n + 13)) 32 (n + 14)) 33 (n + 15)) 34 (n + 16)) 35 (n + 17)) 36 (n + 18)) 37 (n + 19)) 38 (n + 20)), (20, 7, (fun _ => 0)), (20, 5460, (fun _ => 0)), (20, 10920, (fun _ => 0)), (22, 2, (fun _ => 0)), (20, 400, (fun _ => 0)), (20, 96, (fun _ => 0)), (20, 400, (fun _ => 0)), (20, 400, (fun _ => 0)), (20, 400, (fun _ => 0)), (20, 400, (fun _ => 0)), (21, 7, upF (upF (upF (upF (upF (upF (upF ((fun _ => 0)) 0 638548) 1 20026821) 2 72564293) 3 8553619) 4 16110) 5 446125701) 6 549512356), (21, 13, (fun _ => 0)), (21, 400, (fun _ => 0)), (21, 96768, (fun _ => 0)), (20, 6912, (fun _ => 0)), (21, 14, (fun _ => 0)), (21, 14, (fun _ => 0)), (21, 14, (fun _ => 0)), (21, 14, (fun _ => 0)), (21, 72, (fun _ => 0))]) M77 := mM75.wr 0 eM77 (Int.add_zero n).symm rfl
  have q_M77 : mN M77 = n + 21 := mM77.1.2
  refine ⟨mM77.o 0 (Int.add_zero n).symm (Nat.le_of_ble_eq_true rfl) rfl, ?_⟩
  intro M79 eM79
  have mM79 : MEM n M0 ([(11, ((kN 11 : Nat) : Int), upF (upF (upF (upF (upF (upF (upF (upF (upF (upF (upF (upF (upF (upF (upF (upF (upF (upF (upF (upF (upF (upF (dvF 11) 2 (n + 1)) 3 (n + 2)) 4 (n + 3)) 5 (n + 4)) 7 (n + 5)) 13 (-1)) 16 (n + 6)) 18 (n + 7)) 19 (n + 8)) 21 (n + 9)) 22 (n + 10)) 25 (n + 11)) 27 (n + 12)) 28 (n + 13)) 32 (n + 14)) 33 (n + 15)) 34 (n + 16)) 35 (n + 17)) 36 (n + 18)) 37 (n + 19)) 38 (n + 20)) 39 (-1)), (20, 7, (fun _ => 0)), (20, 5460, (fun _ => 0)), (20, 10920, (fun _ => 0)), (22, 2, (fun _ => 0)), (20, 400, (fun _ => 0)), (20, 96, (fun _ => 0)), (20, 400, (fun _ => 0)), (20, 400, (fun _ => 0)), (20, 400, (fun _ => 0)), (20, 400, (fun _ => 0)), (21, 7, upF (upF (upF (upF (upF (upF (upF ((fun _ => 0)) 0 638548) 1 20026821) 2 72564293) 3 8553619) 4 16110) 5 446125701) 6 549512356), (21, 13, (fun _ => 0)), (21, 400, (fun _ => 0)), (21, 96768, (fun _ => 0)), (20, 6912, (fun _ => 0)), (21, 14, (fun _ => 0)), (21, 14, (fun _ => 0)), (21, 14, (fun _ => 0)), (21, 14, (fun _ => 0)), (21, 72, (fun _ => 0))]) M79 := mM77.wr 0 eM79 (Int.add_zero n).symm rfl
  have q_M79 : mN M79 = n + 21 := mM79.1.2
  rw [q_M79]
  intro M80 eM80
  have mM80 : MEM n M0 ([(11, ((kN 11 : Nat) : Int), upF (upF (upF (upF (upF (upF (upF (upF (upF (upF (upF (upF (upF (upF (upF (upF (upF (upF (upF (upF (upF (upF (dvF 11) 2 (n + 1)) 3 (n + 2)) 4 (n + 3)) 5 (n + 4)) 7 (n + 5)) 13 (-1)) 16 (n + 6)) 18 (n + 7)) 19 (n + 8)) 21 (n + 9)) 22 (n + 10)) 25 (n + 11)) 27 (n + 12)) 28 (n + 13)) 32 (n + 14)) 33 (n + 15)) 34 (n + 16)) 35 (n + 17)) 36 (n + 18)) 37 (n + 19)) 38 (n + 20)) 39 (-1)), (20, 7, (fun _ => 0)), (20, 5460, (fun _ => 0)), (20, 10920, (fun _ => 0)), (22, 2, (fun _ => 0)), (20, 400, (fun _ => 0)), (20, 96, (fun _ => 0)), (20, 400, (fun _ => 0)), (20, 400, (fun _ => 0)), (20, 400, (fun _ => 0)), (20, 400, (fun _ => 0)), (21, 7, upF (upF (upF (upF (upF (upF (upF ((fun _ => 0)) 0 638548) 1 20026821) 2 72564293) 3 8553619) 4 16110) 5 446125701) 6 549512356), (21, 13, (fun _ => 0)), (21, 400, (fun _ => 0)), (21, 96768, (fun _ => 0)), (20, 6912, (fun _ => 0)), (21, 14, (fun _ => 0)), (21, 14, (fun _ => 0)), (21, 14, (fun _ => 0)), (21, 14, (fun _ => 0)), (21, 72, (fun _ => 0)), (20, 5, (fun _ => 0))]) M80 := mM79.al eM80 rfl
  have q_M80 : mN M80 = n + 22 := mM80.1.2
  refine ⟨mM80.o 0 (Int.add_zero n).symm (Nat.le_of_ble_eq_true rfl) rfl, ?_⟩
  intro M82 eM82
  have mM82 : MEM n M0 ([(11, ((kN 11 : Nat) : Int), upF (upF (upF (upF (upF (upF (upF (upF (upF (upF (upF (upF (upF (upF (upF (upF (upF (upF (upF (upF (upF (upF (upF (dvF 11) 2 (n + 1)) 3 (n + 2)) 4 (n + 3)) 5 (n + 4)) 7 (n + 5)) 13 (-1)) 16 (n + 6)) 18 (n + 7)) 19 (n + 8)) 21 (n + 9)) 22 (n + 10)) 25 (n + 11)) 27 (n + 12)) 28 (n + 13)) 32 (n + 14)) 33 (n + 15)) 34 (n + 16)) 35 (n + 17)) 36 (n + 18)) 37 (n + 19)) 38 (n + 20)) 39 (-1)) 40 (n + 21)), (20, 7, (fun _ => 0)), (20, 5460, (fun _ => 0)), (20, 10920, (fun _ => 0)), (22, 2, (fun _ => 0)), (20, 400, (fun _ => 0)), (20, 96, (fun _ => 0)), (20, 400, (fun _ => 0)), (20, 400, (fun _ => 0)), (20, 400, (fun _ => 0)), (20, 400, (fun _ => 0)), (21, 7, upF (upF (upF (upF (upF (upF (upF ((fun _ => 0)) 0 638548) 1 20026821) 2 72564293) 3 8553619) 4 16110) 5 446125701) 6 549512356), (21, 13, (fun _ => 0)), (21, 400, (fun _ => 0)), (21, 96768, (fun _ => 0)), (20, 6912, (fun _ => 0)), (21, 14, (fun _ => 0)), (21, 14, (fun _ => 0)), (21, 14, (fun _ => 0)), (21, 14, (fun _ => 0)), (21, 72, (fun _ => 0)), (20, 5, (fun _ => 0))]) M82 := mM80.wr 0 eM82 (Int.add_zero n).symm rfl
  have q_M82 : mN M82 = n + 22 := mM82.1.2
  rw [q_M82]
  intro M83 eM83
  have mM83 : MEM n M0 ([(11, ((kN 11 : Nat) : Int), upF (upF (upF (upF (upF (upF (upF (upF (upF (upF (upF (upF (upF (upF (upF (upF (upF (upF (upF (upF (upF (upF (upF (dvF 11) 2 (n + 1)) 3 (n + 2)) 4 (n + 3)) 5 (n + 4)) 7 (n + 5)) 13 (-1)) 16 (n + 6)) 18 (n + 7)) 19 (n + 8)) 21 (n + 9)) 22 (n + 10)) 25 (n + 11)) 27 (n + 12)) 28 (n + 13)) 32 (n + 14)) 33 (n + 15)) 34 (n + 16)) 35 (n + 17)) 36 (n + 18)) 37 (n + 19)) 38 (n + 20)) 39 (-1)) 40 (n + 21)), (20, 7, (fun _ => 0)), (20, 5460, (fun _ => 0)), (20, 10920, (fun _ => 0)), (22, 2, (fun _ => 0)), (20, 400, (fun _ => 0)), (20, 96, (fun _ => 0)), (20, 400, (fun _ => 0)), (20, 400, (fun _ => 0)), (20, 400, (fun _ => 0)), (20, 400, (fun _ => 0)), (21, 7, upF (upF (upF (upF (upF (upF (upF ((fun _ => 0)) 0 638548) 1 20026821) 2 72564293) 3 8553619) 4 16110) 5 446125701) 6 549512356), (21, 13, (fun _ => 0)), (21, 400, (fun _ => 0)), (21, 96768, (fun _ => 0)), (20, 6912, (fun _ => 0)), (21, 14, (fun _ => 0)), (21, 14, (fun _ => 0)), (21, 14, (fun _ => 0)), (21, 14, (fun _ => 0)), (21, 72, (fun _ => 0)), (20, 5, (fun _ => 0)), (20, 5, (fun _ => 0))]) M83 := mM82.al eM83 rfl
  have q_M83 : mN M83 = n + 23 := mM83.1.2
  refine ⟨mM83.o 0 (Int.add_zero n).symm (Nat.le_of_ble_eq_true rfl) rfl, ?_⟩
  intro M85 eM85
  have mM85 : MEM n M0 ([(11, ((kN 11 : Nat) : Int), upF (upF (upF (upF (upF (upF (upF (upF (upF (upF (upF (upF (upF (upF (upF (upF (upF (upF (upF (upF (upF (upF (upF (upF (dvF 11) 2 (n + 1)) 3 (n + 2)) 4 (n + 3)) 5 (n + 4)) 7 (n + 5)) 13 (-1)) 16 (n + 6)) 18 (n + 7)) 19 (n + 8)) 21 (n + 9)) 22 (n + 10)) 25 (n + 11)) 27 (n + 12)) 28 (n + 13)) 32 (n + 14)) 33 (n + 15)) 34 (n + 16)) 35 (n + 17)) 36 (n + 18)) 37 (n + 19)) 38 (n + 20)) 39 (-1)) 40 (n + 21)) 42 (n + 22)), (20, 7, (fun _ => 0)), (20, 5460, (fun _ => 0)), (20, 10920, (fun _ => 0)), (22, 2, (fun _ => 0)), (20, 400, (fun _ => 0)), (20, 96, (fun _ => 0)), (20, 400, (fun _ => 0)), (20, 400, (fun _ => 0)), (20, 400, (fun _ => 0)), (20, 400, (fun _ => 0)), (21, 7, upF (upF (upF (upF (upF (upF (upF ((fun _ => 0)) 0 638548) 1 20026821) 2 72564293) 3 8553619) 4 16110) 5 446125701) 6 549512356), (21, 13, (fun _ => 0)), (21, 400, (fun _ => 0)), (21, 96768, (fun _ => 0)), (20, 6912, (fun _ => 0)), (21, 14, (fun _ => 0)), (21, 14, (fun _ => 0)), (21, 14, (fun _ => 0)), (21, 14, (fun _ => 0)), (21, 72, (fun _ => 0)), (20, 5, (fun _ => 0)), (20, 5, (fun _ => 0))]) M85 := mM83.wr 0 eM85 (Int.add_zero n).symm rfl
  have q_M85 : mN M85 = n + 23 := mM85.1.2
  rw [q_M85]
  intro M86 eM86
  have mM86 : MEM n M0 ([(11, ((kN 11 : Nat) : Int), upF (upF (upF (upF (upF (upF (upF (upF (upF (upF (upF (upF (upF (upF (upF (upF (upF (upF (upF (upF (upF (upF (upF (upF (dvF 11) 2 (n + 1)) 3 (n + 2)) 4 (n + 3)) 5 (n + 4)) 7 (n + 5)) 13 (-1)) 16 (n + 6)) 18 (n + 7)) 19 (n + 8)) 21 (n + 9)) 22 (n + 10)) 25 (n + 11)) 27 (n + 12)) 28 (n + 13)) 32 (n + 14)) 33 (n + 15)) 34 (n + 16)) 35 (n + 17)) 36 (n + 18)) 37 (n + 19)) 38 (n + 20)) 39 (-1)) 40 (n + 21)) 42 (n + 22)), (20, 7, (fun _ => 0)), (20, 5460, (fun _ => 0)), (20, 10920, (fun _ => 0)), (22, 2, (fun _ => 0)), (20, 400, (fun _ => 0)), (20, 96, (fun _ => 0)), (20, 400, (fun _ => 0)), (20, 400, (fun _ => 0)), (20, 400, (fun _ => 0)), (20, 400, (fun _ => 0)), (21, 7, upF (upF (upF (upF (upF (upF (upF ((fun _ => 0)) 0 638548) 1 20026821) 2 72564293) 3 8553619) 4 16110) 5 446125701) 6 549512356), (21, 13, (fun _ => 0)), (21, 400, (fun _ => 0)), (21, 96768, (fun _ => 0)), (20, 6912, (fun _ => 0)), (21, 14, (fun _ => 0)), (21, 14, (fun _ => 0)), (21, 14, (fun _ => 0)), (21, 14, (fun _ => 0)), (21, 72, (fun _ => 0)), (20, 5, (fun _ => 0)), (20, 5, (fun _ => 0)), (21, 504, (fun _ => 0))]) M86 := mM85.al eM86 rfl
  have q_M86 : mN M86 = n + 24 := mM86.1.2
  refine ⟨mM86.o 0 (Int.add_zero n).symm (Nat.le_of_ble_eq_true rfl) rfl, ?_⟩
  intro M88 eM88
  have mM88 : MEM n M0 ([(11, ((kN 11 : Nat) : Int), upF (upF (upF (upF (upF (upF (upF (upF (upF (upF (upF (upF (upF (upF (upF (upF (upF (upF (upF (upF (upF (upF (upF (upF (upF (dvF 11) 2 (n + 1)) 3 (n + 2)) 4 (n + 3)) 5 (n + 4)) 7 (n + 5)) 13 (-1)) 16 (n + 6)) 18 (n + 7)) 19 (n + 8)) 21 (n + 9)) 22 (n + 10)) 25 (n + 11)) 27 (n + 12)) 28 (n + 13)) 32 (n + 14)) 33 (n + 15)) 34 (n + 16)) 35 (n + 17)) 36 (n + 18)) 37 (n + 19)) 38 (n + 20)) 39 (-1)) 40 (n + 21)) 42 (n + 22)) 45 (n + 23)), (20, 7, (fun _ => 0)), (20, 5460, (fun _ => 0)), (20, 10920, (fun _ => 0)), (22, 2, (fun _ => 0)), (20, 400, (fun _ => 0)), (20, 96, (fun _ => 0)), (20, 400, (fun _ => 0)), (20, 400, (fun _ => 0)), (20, 400, (fun _ => 0)), (20, 400, (fun _ => 0)), (21, 7, upF (upF (upF (upF (upF (upF (upF ((fun _ => 0)) 0 638548) 1 20026821) 2 72564293) 3 8553619) 4 16110) 5 446125701) 6 549512356), (21, 13, (fun _ => 0)), (21, 400, (fun _ => 0)), (21, 96768, (fun _ => 0)), (20, 6912, (fun _ => 0)), (21, 14, (fun _ => 0)), (21, 14, (fun _ => 0)), (21, 14, (fun _ => 0)), (21, 14, (fun _ => 0)), (21, 72, (fun _ => 0)), (20, 5, (fun _ => 0)), (20, 5, (fun _ => 0)), (21, 504, (fun _ => 0))]) M88 := mM86.wr 0 eM88 (Int.add_zero n).symm rfl
  have q_M88 : mN M88 = n + 24 := mM88.1.2
  rw [q_M88]
  intro M89 eM89
  have mM89 : MEM n M0 ([(11, ((kN 11 : Nat) : Int), upF (upF (upF (upF (upF (upF (upF (upF (upF (upF (upF (upF (upF (upF (upF (upF (upF (upF (upF (upF (upF (upF (upF (upF (upF (dvF 11) 2 (n + 1)) 3 (n + 2)) 4 (n + 3)) 5 (n + 4)) 7 (n + 5)) 13 (-1)) 16 (n + 6)) 18 (n + 7)) 19 (n + 8)) 21 (n + 9)) 22 (n + 10)) 25 (n + 11)) 27 (n + 12)) 28 (n + 13)) 32 (n + 14)) 33 (n + 15)) 34 (n + 16)) 35 (n + 17)) 36 (n + 18)) 37 (n + 19)) 38 (n + 20)) 39 (-1)) 40 (n + 21)) 42 (n + 22)) 45 (n + 23)), (20, 7, (fun _ => 0)), (20, 5460, (fun _ => 0)), (20, 10920, (fun _ => 0)), (22, 2, (fun _ => 0)), (20, 400, (fun _ => 0)), (20, 96, (fun _ => 0)), (20, 400, (fun _ => 0)), (20, 400, (fun _ => 0)), (20, 400, (fun _ => 0)), (20, 400, (fun _ => 0)), (21, 7, upF (upF (upF (upF (upF (upF (upF ((fun _ => 0)) 0 638548) 1 20026821) 2 72564293) 3 8553619) 4 16110) 5 446125701) 6 549512356), (21, 13, (fun _ => 0)), (21, 400, (fun _ => 0)), (21, 96768, (fun _ => 0)), (20, 6912, (fun _ => 0)), (21, 14, (fun _ => 0)), (21, 14, (fun _ => 0)), (21, 14, (fun _ => 0)), (21, 14, (fun _ => 0)), (21, 72, (fun _ => 0)), (20, 5, (fun _ => 0)), (20, 5, (fun _ => 0)), (21, 504, (fun _ => 0)), (21, 504, (fun _ => 0))]) M89 := mM88.al eM89 rfl
  have q_M89 : mN M89 = n + 25 := mM89.1.2
  refine ⟨mM89.o 0 (Int.add_zero n).symm (Nat.le_of_ble_eq_true rfl) rfl, ?_⟩
  intro M91 eM91
  have mM91 : MEM n M0 ([(11, ((kN 11 : Nat) : Int), upF (upF (upF (upF (upF (upF (upF (upF (upF (upF (upF (upF (upF (upF (upF (upF (upF (upF (upF (upF (upF (upF (upF (upF (upF (upF (dvF 11) 2 (n + 1)) 3 (n + 2)) 4 (n + 3)) 5 (n + 4)) 7 (n + 5)) 13 (-1)) 16 (n + 6)) 18 (n + 7)) 19 (n + 8)) 21 (n + 9)) 22 (n + 10)) 25 (n + 11)) 27 (n + 12)) 28 (n + 13)) 32 (n + 14)) 33 (n + 15)) 34 (n + 16)) 35 (n + 17)) 36 (n + 18)) 37 (n + 19)) 38 (n + 20)) 39 (-1)) 40 (n + 21)) 42 (n + 22)) 45 (n + 23)) 46 (n + 24)), (20, 7, (fun _ => 0)), (20, 5460, (fun _ => 0)), (20, 10920, (fun _ => 0)), (22, 2, (fun _ => 0)), (20, 400, (fun _ => 0)), (20, 96, (fun _ => 0)), (20, 400, (fun _ => 0)), (20, 400, (fun _ => 0)), (20, 400, (fun _ => 0)), (20, 400, (fun _ => 0)), (21, 7, upF (upF (upF (upF (upF (upF (upF ((fun _ => 0)) 0 638548) 1 20026821) 2 72564293) 3 8553619) 4 16110) 5 446125701) 6 549512356), (21, 13, (fun _ => 0)), (21, 400, (fun _ => 0)), (21, 96768, (fun _ => 0)), (20, 6912, (fun _ => 0)), (21, 14, (fun _ => 0)), (21, 14, (fun _ => 0)), (21, 14, (fun _ => 0)), (21, 14, (fun _ => 0)), (21, 72, (fun _ => 0)), (20, 5, (fun _ => 0)), (20, 5, (fun _ => 0)), (21, 504, (fun _ => 0)), (21, 504, (fun _ => 0))]) M91 := mM89.wr 0 eM91 (Int.add_zero n).symm rfl
  have q_M91 : mN M91 = n + 25 := mM91.1.2
  rw [q_M91]
  intro M92 eM92
  have mM92 : MEM n M0 ([(11, ((kN 11 : Nat) : Int), upF (upF (upF (upF (upF (upF (upF (upF (upF (upF (upF (upF (upF (upF (upF (upF (upF (upF (upF (upF (upF (upF (upF (upF (upF (upF (dvF 11) 2 (n + 1)) 3 (n + 2)) 4 (n + 3)) 5 (n + 4)) 7 (n + 5)) 13 (-1)) 16 (n + 6)) 18 (n + 7)) 19 (n + 8)) 21 (n + 9)) 22 (n + 10)) 25 (n + 11)) 27 (n + 12)) 28 (n + 13)) 32 (n + 14)) 33 (n + 15)) 34 (n + 16)) 35 (n + 17)) 36 (n + 18)) 37 (n + 19)) 38 (n + 20)) 39 (-1)) 40 (n + 21)) 42 (n + 22)) 45 (n + 23)) 46 (n + 24)), (20, 7, (fun _ => 0)), (20, 5460, (fun _ => 0)), (20, 10920, (fun _ => 0)), (22, 2, (fun _ => 0)), (20, 400, (fun _ => 0)), (20, 96, (fun _ => 0)), (20, 400, (fun _ => 0)), (20, 400, (fun _ => 0)), (20, 400, (fun _ => 0)), (20, 400, (fun _ => 0)), (21, 7, upF (upF (upF (upF (upF (upF (upF ((fun _ => 0)) 0 638548) 1 20026821) 2 72564293) 3 8553619) 4 16110) 5 446125701) 6 549512356), (21, 13, (fun _ => 0)), (21, 400, (fun _ => 0)), (21, 96768, (fun _ => 0)), (20, 6912, (fun _ => 0)), (21, 14, (fun _ => 0)), (21, 14, (fun _ => 0)), (21, 14, (fun _ => 0)), (21, 14, (fun _ => 0)), (21, 72, (fun _ => 0)), (20, 5, (fun _ => 0)), (20, 5, (fun _ => 0)), (21, 504, (fun _ => 0)), (21, 504, (fun _ => 0)), (20, 15, (fun _ => 0))]) M92 := mM91.al eM92 rfl
  have q_M92 : mN M92 = n + 26 := mM92.1.2
  refine ⟨mM92.o 0 (Int.add_zero n).symm (Nat.le_of_ble_eq_true rfl) rfl, ?_⟩
  intro M94 eM94
  have mM94 : MEM n M0 ([(11, ((kN 11 : Nat) : Int), upF (upF (upF (upF (upF (upF (upF (upF (upF (upF (upF (upF (upF (upF (upF (upF (upF (upF (upF (upF (upF (upF (upF (upF (upF (upF (upF (dvF 11) 2 (n + 1)) 3 (n + 2)) 4 (n + 3)) 5 (n + 4)) 7 (n + 5)) 13 (-1)) 16 (n + 6)) 18 (n + 7)) 19 (n + 8)) 21 (n + 9)) 22 (n + 10)) 25 (n + 11)) 27 (n + 12)) 28 (n + 13)) 32 (n + 14)) 33 (n + 15)) 34 (n + 16)) 35 (n + 17)) 36 (n + 18)) 37 (n + 19)) 38 (n + 20)) 39 (-1)) 40 (n + 21)) 42 (n + 22)) 45 (n + 23)) 46 (n + 24)) 49 (n + 25)), (20, 7, (fun _ => 0)), (20, 5460, (fun _ => 0)), (20, 10920, (fun _ => 0)), (22, 2, (fun _ => 0)), (20, 400, (fun _ => 0)), (20, 96, (fun _ => 0)), (20, 400, (fun _ => 0)), (20, 400, (fun _ => 0)), (20, 400, (fun _ => 0)), (20, 400, (fun _ => 0)), (21, 7, upF (upF (upF (upF (upF (upF (upF ((fun _ => 0)) 0 638548) 1 20026821) 2 72564293) 3 8553619) 4 16110) 5 446125701) 6 549512356), (21, 13, (fun _ => 0)), (21, 400, (fun _ => 0)), (21, 96768, (fun _ => 0)), (20, 6912, (fun _ => 0)), (21, 14, (fun _ => 0)), (21, 14, (fun _ => 0)), (21, 14, (fun _ => 0)), (21, 14, (fun _ => 0)), (21, 72, (fun _ => 0)), (20, 5, (fun _ => 0)), (20, 5, (fun _ => 0)), (21, 504, (fun _ => 0)), (21, 504, (fun _ => 0)), (20, 15, (fun _ => 0))]) M94 := mM92.wr 0 eM94 (Int.add_zero n).symm rfl
  have q_M94 : mN M94 = n + 26 := mM94.1.2
  refine ⟨mM94.o 0 (Int.add_zero n).symm (Nat.le_of_ble_eq_true rfl) rfl, ?_⟩
  intro M96 eM96
  have mM96 : MEM n M0 ([(11, ((kN 11 : Nat) : Int), upF (upF (upF (upF (upF (upF (upF (upF (upF (upF (upF (upF (upF (upF (upF (upF (upF (upF (upF (upF (upF (upF (upF (upF (upF (upF (upF (upF (dvF 11) 2 (n + 1)) 3 (n + 2)) 4 (n + 3)) 5 (n + 4)) 7 (n + 5)) 13 (-1)) 16 (n + 6)) 18 (n + 7)) 19 (n + 8)) 21 (n + 9)) 22 (n + 10)) 25 (n + 11)) 27 (n + 12)) 28 (n + 13)) 32 (n + 14)) 33 (n + 15)) 34 (n + 16)) 35 (n + 17)) 36 (n + 18)) 37 (n + 19)) 38 (n + 20)) 39 (-1)) 40 (n + 21)) 42 (n + 22)) 45 (n + 23)) 46 (n + 24)) 49 (n + 25)) 52 (-1)), (20, 7, (fun _ => 0)), (20, 5460, (fun _ => 0)), (20, 10920, (fun _ => 0)), (22, 2, (fun _ => 0)), (20, 400, (fun _ => 0)), (20, 96, (fun _ => 0)), (20, 400, (fun _ => 0)), (20, 400, (fun _ => 0)), (20, 400, (fun _ => 0)), (20, 400, (fun _ => 0)), (21, 7, upF (upF (upF (upF (upF (upF (upF ((fun _ => 0)) 0 638548) 1 20026821) 2 72564293) 3 8553619) 4 16110) 5 446125701) 6 549512356), (21, 13, (fun _ => 0)), (21, 400, (fun _ => 0)), (21, 96768, (fun _ => 0)), (20, 6912, (fun _ => 0)), (21, 14, (fun _ => 0)), (21, 14, (fun _ => 0)), (21, 14, (fun _ => 0)), (21, 14, (fun _ => 0)), (21, 72, (fun _ => 0)), (20, 5, (fun _ => 0)), (20, 5, (fun _ => 0)), (21, 504, (fun _ => 0)), (21, 504, (fun _ => 0)), (20, 15, (fun _ => 0))]) M96 := mM94.wr 0 eM96 (Int.add_zero n).symm rfl
  have q_M96 : mN M96 = n + 26 := mM96.1.2
  rw [q_M96]
  intro M97 eM97
  have mM97 : MEM n M0 ([(11, ((kN 11 : Nat) : Int), upF (upF (upF (upF (upF (upF (upF (upF (upF (upF (upF (upF (upF (upF (upF (upF (upF (upF (upF (upF (upF (upF (upF (upF (upF (upF (upF (upF (dvF 11) 2 (n + 1)) 3 (n + 2)) 4 (n + 3)) 5 (n + 4)) 7 (n + 5)) 13 (-1)) 16 (n + 6)) 18 (n + 7)) 19 (n + 8)) 21 (n + 9)) 22 (n + 10)) 25 (n + 11)) 27 (n + 12)) 28 (n + 13)) 32 (n + 14)) 33 (n + 15)) 34 (n + 16)) 35 (n + 17)) 36 (n + 18)) 37 (n + 19)) 38 (n + 20)) 39 (-1)) 40 (n + 21)) 42 (n + 22)) 45 (n + 23)) 46 (n + 24)) 49 (n + 25)) 52 (-1)), (20, 7, (fun _ => 0)), (20, 5460, (fun _ => 0)), (20, 10920, (fun _ => 0)), (22, 2, (fun _ => 0)), (20, 400, (fun _ => 0)), (20, 96, (fun _ => 0)), (20, 400, (fun _ => 0)), (20, 400, (fun _ => 0)), (20, 400, (fun _ => 0)), (20, 400, (fun _ => 0)), (21, 7, upF (upF (upF (upF (upF (upF (upF ((fun _ => 0)) 0 638548) 1 20026821) 2 72564293) 3 8553619) 4 16110) 5 446125701) 6 549512356), (21, 13, (fun _ => 0)), (21, 400, (fun _ => 0)), (21, 96768, (fun _ => 0)), (20, 6912, (fun _ => 0)), (21, 14, (fun _ => 0)), (21, 14, (fun _ => 0)), (21, 14, (fun _ => 0)), (21, 14, (fun _ => 0)), (21, 72, (fun _ => 0)), (20, 5, (fun _ => 0)), (20, 5, (fun _ => 0)), (21, 504, (fun _ => 0)), (21, 504, (fun _ => 0)), (20, 15, (fun _ => 0)), (20, 15, (fun _ => 0))]) M97 := mM96.al eM97 rfl
  have q_M97 : mN M97 = n + 27 := mM97.1.2
  refine ⟨mM97.o 0 (Int.add_zero n).symm (Nat.le_of_ble_eq_true rfl) rfl, ?_⟩
  intro M99 eM99
  have mM99 : MEM n M0 ([(11, ((kN 11 : Nat) : Int), upF (upF (upF (upF (upF (upF (upF (upF (upF (upF (upF (upF (upF (upF (upF (upF (upF (upF (upF (upF (upF (upF (upF (upF (upF (upF (upF (upF (upF (dvF 11) 2 (n + 1)) 3 (n + 2)) 4 (n + 3)) 5 (n + 4)) 7 (n + 5)) 13 (-1)) 16 (n + 6)) 18 (n + 7)) 19 (n + 8)) 21 (n + 9)) 22 (n + 10)) 25 (n + 11)) 27 (n + 12)) 28 (n + 13)) 32 (n + 14)) 33 (n + 15)) 34 (n + 16)) 35 (n + 17)) 36 (n + 18)) 37 (n + 19)) 38 (n + 20)) 39 (-1)) 40 (n + 21)) 42 (n + 22)) 45 (n + 23)) 46 (n + 24)) 49 (n + 25)) 52 (-1)) 53 (n + 26)), (20, 7, (fun _ => 0)), (20, 5460, (fun _ => 0)), (20, 10920, (fun _ => 0)), (22, 2, (fun _ => 0)), (20, 400, (fun _ => 0)), (20, 96, (fun _ => 0)), (20, 400, (fun _ => 0)), (20, 400, (fun _ => 0)), (20, 400, (fun _ => 0)), (20, 400, (fun _ => 0)), (21, 7, upF (upF (upF (upF (upF (upF (upF ((fun _ => 0)) 0 638548) 1 20026821) 2 72564293) 3 8553619) 4 16110) 5 446125701) 6 549512356), (21, 13, (fun _ => 0)), (21, 400, (fun _ => 0)), (21, 96768, (fun _ => 0)), (20, 6912, (fun _ => 0)), (21, 14, (fun _ => 0)), (21, 14, (fun _ => 0)), (21, 14, (fun _ => 0)), (21, 14, (fun _ => 0)), (21, 72, (fun _ => 0)), (20, 5, (fun _ => 0)), (20, 5, (fun _ => 0)), (21, 504, (fun _ => 0)), (21, 504, (fun _ => 0)), (20, 15, (fun _ => 0)), (20, 15, (fun _ => 0))]) M99 := mM97.wr 0 eM99 (Int.add_zero n).symm rfl
  have q_M99 : mN M99 = n + 27 := mM99.1.2
  rw [show rd M99 n 3 = n + 2 from (mM99.r 0 (Int.add_zero n).symm (Nat.le_of_ble_eq_true rfl)).trans rfl]
  refine ⟨mM99.o 0 (Int.add_zero n).symm (Nat.le_of_ble_eq_true rfl) rfl, ?_⟩
  refine ⟨mM99.a 2 rfl (Nat.le_of_ble_eq_true rfl) rfl (by decide) (show (2 : Int) < 5460 by decide), ?_⟩
  intro M102 eM102
  have mM102 : MEM n M0 ([(11, ((kN 11 : Nat) : Int), upF (upF (upF (upF (upF (upF (upF (upF (upF (upF (upF (upF (upF (upF (upF (upF (upF (upF (upF (upF (upF (upF (upF (upF (upF (upF (upF (upF (upF (dvF 11) 2 (n + 1)) 3 (n + 2)) 4 (n + 3)) 5 (n + 4)) 7 (n + 5)) 13 (-1)) 16 (n + 6)) 18 (n + 7)) 19 (n + 8)) 21 (n + 9)) 22 (n + 10)) 25 (n + 11)) 27 (n + 12)) 28 (n + 13)) 32 (n + 14)) 33 (n + 15)) 34 (n + 16)) 35 (n + 17)) 36 (n + 18)) 37 (n + 19)) 38 (n + 20)) 39 (-1)) 40 (n + 21)) 42 (n + 22)) 45 (n + 23)) 46 (n + 24)) 49 (n + 25)) 52 (-1)) 53 (n + 26)), (20, 7, (fun _ => 0)), (20, 5460, upF ((fun _ => 0)) 2 (-1)), (20, 10920, (fun _ => 0)), (22, 2, (fun _ => 0)), (20, 400, (fun _ => 0)), (20, 96, (fun _ => 0)), (20, 400, (fun _ => 0)), (20, 400, (fun _ => 0)), (20, 400, (fun _ => 0)), (20, 400, (fun _ => 0)), (21, 7, upF (upF (upF (upF (upF (upF (upF ((fun _ => 0)) 0 638548) 1 20026821) 2 72564293) 3 8553619) 4 16110) 5 446125701) 6 549512356), (21, 13, (fun _ => 0)), (21, 400, (fun _ => 0)), (21, 96768, (fun _ => 0)), (20, 6912, (fun _ => 0)), (21, 14, (fun _ => 0)), (21, 14, (fun _ => 0)), (21, 14, (fun _ => 0)), (21, 14, (fun _ => 0)), (21, 72, (fun _ => 0)), (20, 5, (fun _ => 0)), (20, 5, (fun _ => 0)), (21, 504, (fun _ => 0)), (21, 504, (fun _ => 0)), (20, 15, (fun _ => 0)), (20, 15, (fun _ => 0))]) M102 := mM99.wr 2 eM102 rfl rfl
  have q_M102 : mN M102 = n + 27 := mM102.1.2
  rw [show rd M102 n 3 = n + 2 from (mM102.r 0 (Int.add_zero n).symm (Nat.le_of_ble_eq_true rfl)).trans rfl]
  refine ⟨mM102.o 0 (Int.add_zero n).symm (Nat.le_of_ble_eq_true rfl) rfl, ?_⟩
  refine ⟨mM102.a 2 rfl (Nat.le_of_ble_eq_true rfl) rfl (by decide) (show (5 : Int) < 5460 by decide), ?_⟩
  intro M105 eM105
  have mM105 : MEM n M0 ([(11, ((kN 11 : Nat) : Int), upF (upF (upF (upF (upF (upF (upF (upF (upF (upF (upF (upF (upF (upF (upF (upF (upF (upF (upF (upF (upF (upF (upF (upF (upF (upF (upF (upF (upF (dvF 11) 2 (n + 1)) 3 (n + 2)) 4 (n + 3)) 5 (n + 4)) 7 (n + 5)) 13 (-1)) 16 (n + 6)) 18 (n + 7)) 19 (n + 8)) 21 (n + 9)) 22 (n + 10)) 25 (n + 11)) 27 (n + 12)) 28 (n + 13)) 32 (n + 14)) 33 (n + 15)) 34 (n + 16)) 35 (n + 17)) 36 (n + 18)) 37 (n + 19)) 38 (n + 20)) 39 (-1)) 40 (n + 21)) 42 (n + 22)) 45 (n + 23)) 46 (n + 24)) 49 (n + 25)) 52 (-1)) 53 (n + 26)), (20, 7, (fun _ => 0)), (20, 5460, upF (upF ((fun _ => 0)) 2 (-1)) 5 (-1)), (20, 10920, (fun _ => 0)), (22, 2, (fun _ => 0)), (20, 400, (fun _ => 0)), (20, 96, (fun _ => 0)), (20, 400, (fun _ => 0)), (20, 400, (fun _ => 0)), (20, 400, (fun _ => 0)), (20, 400, (fun _ => 0)), (21, 7, upF (upF (upF (upF (upF (upF (upF ((fun _ => 0)) 0 638548) 1 20026821) 2 72564293) 3 8553619) 4 16110) 5 446125701) 6 549512356), (21, 13, (fun _ => 0)), (21, 400, (fun _ => 0)), (21, 96768, (fun _ => 0)), (20, 6912, (fun _ => 0)), (21, 14, (fun _ => 0)), (21, 14, (fun _ => 0)), (21, 14, (fun _ => 0)), (21, 14, (fun _ => 0)), (21, 72, (fun _ => 0)), (20, 5, (fun _ => 0)), (20, 5, (fun _ => 0)), (21, 504, (fun _ => 0)), (21, 504, (fun _ => 0)), (20, 15, (fun _ => 0)), (20, 15, (fun _ => 0))]) M105 := mM102.wr 2 eM105 rfl rfl
  have q_M105 : mN M105 = n + 27 := mM105.1.2
  rw [show rd M105 n 3 = n + 2 from (mM105.r 0 (Int.add_zero n).symm (Nat.le_of_ble_eq_true rfl)).trans rfl]
  refine ⟨mM105.o 0 (Int.add_zero n).symm (Nat.le_of_ble_eq_true rfl) rfl, ?_⟩
  refine ⟨mM105.a 2 rfl (Nat.le_of_ble_eq_true rfl) rfl (by decide) (show (31 : Int) < 5460 by decide), ?_⟩
  intro M108 eM108
  have mM108 : MEM n M0 ([(11, ((kN 11 : Nat) : Int), upF (upF (upF (upF (upF (upF (upF (upF (upF (upF (upF (upF (upF (upF (upF (upF (upF (upF (upF (upF (upF (upF (upF (upF (upF (upF (upF (upF (upF (dvF 11) 2 (n + 1)) 3 (n + 2)) 4 (n + 3)) 5 (n + 4)) 7 (n + 5)) 13 (-1)) 16 (n + 6)) 18 (n + 7)) 19 (n + 8)) 21 (n + 9)) 22 (n + 10)) 25 (n + 11)) 27 (n + 12)) 28 (n + 13)) 32 (n + 14)) 33 (n + 15)) 34 (n + 16)) 35 (n + 17)) 36 (n + 18)) 37 (n + 19)) 38 (n + 20)) 39 (-1)) 40 (n + 21)) 42 (n + 22)) 45 (n + 23)) 46 (n + 24)) 49 (n + 25)) 52 (-1)) 53 (n + 26)), (20, 7, (fun _ => 0)), (20, 5460, upF (upF (upF ((fun _ => 0)) 2 (-1)) 5 (-1)) 31 1), (20, 10920, (fun _ => 0)), (22, 2, (fun _ => 0)), (20, 400, (fun _ => 0)), (20, 96, (fun _ => 0)), (20, 400, (fun _ => 0)), (20, 400, (fun _ => 0)), (20, 400, (fun _ => 0)), (20, 400, (fun _ => 0)), (21, 7, upF (upF (upF (upF (upF (upF (upF ((fun _ => 0)) 0 638548) 1 20026821) 2 72564293) 3 8553619) 4 16110) 5 446125701) 6 549512356), (21, 13, (fun _ => 0)), (21, 400, (fun _ => 0)), (21, 96768, (fun _ => 0)), (20, 6912, (fun _ => 0)), (21, 14, (fun _ => 0)), (21, 14, (fun _ => 0)), (21, 14, (fun _ => 0)), (21, 14, (fun _ => 0)), (21, 72, (fun _ => 0)), (20, 5, (fun _ => 0)), (20, 5, (fun _ => 0)), (21, 504, (fun _ => 0)), (21, 504, (fun _ => 0)), (20, 15, (fun _ => 0)), (20, 15, (fun _ => 0))]) M108 := mM105.wr 2 eM108 rfl rfl
  have q_M108 : mN M108 = n + 27 := mM108.1.2
  rw [show rd M108 n 3 = n + 2 from (mM108.r 0 (Int.add_zero n).symm (Nat.le_of_ble_eq_true rfl)).trans rfl]
  refine ⟨mM108.o 0 (Int.add_zero n).symm (Nat.le_of_ble_eq_true rfl) rfl, ?_⟩
  refine ⟨mM108.a 2 rfl (Nat.le_of_ble_eq_true rfl) rfl (by decide) (show (34 : Int) < 5460 by decide), ?_⟩
  intro M111 eM111
  have mM111 : MEM n M0 ([(11, ((kN 11 : Nat) : Int), upF (upF (upF (upF (upF (upF (upF (upF (upF (upF (upF (upF (upF (upF (upF (upF (upF (upF (upF (upF (upF (upF (upF (upF (upF (upF (upF (upF (upF (dvF 11) 2 (n + 1)) 3 (n + 2)) 4 (n + 3)) 5 (n + 4)) 7 (n + 5)) 13 (-1)) 16 (n + 6)) 18 (n + 7)) 19 (n + 8)) 21 (n + 9)) 22 (n + 10)) 25 (n + 11)) 27 (n + 12)) 28 (n + 13)) 32 (n + 14)) 33 (n + 15)) 34 (n + 16)) 35 (n + 17)) 36 (n + 18)) 37 (n + 19)) 38 (n + 20)) 39 (-1)) 40 (n + 21)) 42 (n + 22)) 45 (n + 23)) 46 (n + 24)) 49 (n + 25)) 52 (-1)) 53 (n + 26)), (20, 7, (fun _ => 0)), (20, 5460, upF (upF (upF (upF ((fun _ => 0)) 2 (-1)) 5 (-1)) 31 1) 34 1), (20, 10920, (fun _ => 0)), (22, 2, (fun _ => 0)), (20, 400, (fun _ => 0)), (20, 96, (fun _ => 0)), (20, 400, (fun _ => 0)), (20, 400, (fun _ => 0)), (20, 400, (fun _ => 0)), (20, 400, (fun _ => 0)), (21, 7, upF (upF (upF (upF (upF (upF (upF ((fun _ => 0)) 0 638548) 1 20026821) 2 72564293) 3 8553619) 4 16110) 5 446125701) 6 549512356), (21, 13, (fun _ => 0)), (21, 400, (fun _ => 0)), (21, 96768, (fun _ => 0)), (20, 6912, (fun _ => 0)), (21, 14, (fun _ => 0)), (21, 14, (fun _ => 0)), (21, 14, (fun _ => 0)), (21, 14, (fun _ => 0)), (21, 72, (fun _ => 0)), (20, 5, (fun _ => 0)), (20, 5, (fun _ => 0)), (21, 504, (fun _ => 0)), (21, 504, (fun _ => 0)), (20, 15, (fun _ => 0)), (20, 15, (fun _ => 0))]) M111 := mM108.wr 2 eM111 rfl rfl
  have q_M111 : mN M111 = n + 27 := mM111.1.2
  rw [show rd M111 n 3 = n + 2 from (mM111.r 0 (Int.add_zero n).symm (Nat.le_of_ble_eq_true rfl)).trans rfl]
  refine ⟨mM111.o 0 (Int.add_zero n).symm (Nat.le_of_ble_eq_true rfl) rfl, ?_⟩
  refine ⟨mM111.a 2 rfl (Nat.le_of_ble_eq_true rfl) rfl (by decide) (show (40 : Int) < 5460 by decide), ?_⟩
  intro M114 eM114
  have mM114 : MEM n M0 ([(11, ((kN 11 : Nat) : Int), upF (upF (upF (upF (upF (upF (upF (upF (upF (upF (upF (upF (upF (upF (upF (upF (upF (upF (upF (upF (upF (upF (upF (upF (upF (upF (upF (upF (upF (dvF 11) 2 (n + 1)) 3 (n + 2)) 4 (n + 3)) 5 (n + 4)) 7 (n + 5)) 13 (-1)) 16 (n + 6)) 18 (n + 7)) 19 (n + 8)) 21 (n + 9)) 22 (n + 10)) 25 (n + 11)) 27 (n + 12)) 28 (n + 13)) 32 (n + 14)) 33 (n + 15)) 34 (n + 16)) 35 (n + 17)) 36 (n + 18)) 37 (n + 19)) 38 (n + 20)) 39 (-1)) 40 (n + 21)) 42 (n + 22)) 45 (n + 23)) 46 (n + 24)) 49 (n + 25)) 52 (-1)) 53 (n + 26)), (20, 7, (fun _ => 0)), (20, 5460, upF (upF (upF (upF (upF ((fun _ => 0)) 2 (-1)) 5 (-1)) 31 1) 34 1) 40 1), (20, 10920, (fun _ => 0)), (22, 2, (fun _ => 0)), (20, 400, (fun _ => 0)), (20, 96, (fun _ => 0)), (20, 400, (fun _ => 0)), (20, 400, (fun _ => 0)), (20, 400, (fun _ => 0)), (20, 400, (fun _ => 0)), (21, 7, upF (upF (upF (upF (upF (upF (upF ((fun _ => 0)) 0 638548) 1 20026821) 2 72564293) 3 8553619) 4 16110) 5 446125701) 6 549512356), (21, 13, (fun _ => 0)), (21, 400, (fun _ => 0)), (21, 96768, (fun _ => 0)), (20, 6912, (fun _ => 0)), (21, 14, (fun _ => 0)), (21, 14, (fun _ => 0)), (21, 14, (fun _ => 0)), (21, 14, (fun _ => 0)), (21, 72, (fun _ => 0)), (20, 5, (fun _ => 0)), (20, 5, (fun _ => 0)), (21, 504, (fun _ => 0)), (21, 504, (fun _ => 0)), (20, 15, (fun _ => 0)), (20, 15, (fun _ => 0))]) M114 := mM111.wr 2 eM114 rfl rfl
  have q_M114 : mN M114 = n + 27 := mM114.1.2
  rw [show rd M114 n 3 = n + 2 from (mM114.r 0 (Int.add_zero n).symm (Nat.le_of_ble_eq_true rfl)).trans rfl]
  refine ⟨mM114.o 0 (Int.add_zero n).symm (Nat.le_of_ble_eq_true rfl) rfl, ?_⟩
  refine ⟨mM114.a 2 rfl (Nat.le_of_ble_eq_true rfl) rfl (by decide) (show (42 : Int) < 5460 by decide), ?_⟩
  intro M117 eM117
  have mM117 : MEM n M0 ([(11, ((kN 11 : Nat) : Int), upF (upF (upF (upF (upF (upF (upF (upF (upF (upF (upF (upF (upF (upF (upF (upF (upF (upF (upF (upF (upF (upF (upF (upF (upF (upF (upF (upF (upF (dvF 11) 2 (n + 1)) 3 (n + 2)) 4 (n + 3)) 5 (n + 4)) 7 (n + 5)) 13 (-1)) 16 (n + 6)) 18 (n + 7)) 19 (n + 8)) 21 (n + 9)) 22 (n + 10)) 25 (n + 11)) 27 (n + 12)) 28 (n + 13)) 32 (n + 14)) 33 (n + 15)) 34 (n + 16)) 35 (n + 17)) 36 (n + 18)) 37 (n + 19)) 38 (n + 20)) 39 (-1)) 40 (n + 21)) 42 (n + 22)) 45 (n + 23)) 46 (n + 24)) 49 (n + 25)) 52 (-1)) 53 (n + 26)), (20, 7, (fun _ => 0)), (20, 5460, upF (upF (upF (upF (upF (upF ((fun _ => 0)) 2 (-1)) 5 (-1)) 31 1) 34 1) 40 1) 42 120), (20, 10920, (fun _ => 0)), (22, 2, (fun _ => 0)), (20, 400, (fun _ => 0)), (20, 96, (fun _ => 0)), (20, 400, (fun _ => 0)), (20, 400, (fun _ => 0)), (20, 400, (fun _ => 0)), (20, 400, (fun _ => 0)), (21, 7, upF (upF (upF (upF (upF (upF (upF ((fun _ => 0)) 0 638548) 1 20026821) 2 72564293) 3 8553619) 4 16110) 5 446125701) 6 549512356), (21, 13, (fun _ => 0)), (21, 400, (fun _ => 0)), (21, 96768, (fun _ => 0)), (20, 6912, (fun _ => 0)), (21, 14, (fun _ => 0)), (21, 14, (fun _ => 0)), (21, 14, (fun _ => 0)), (21, 14, (fun _ => 0)), (21, 72, (fun _ => 0)), (20, 5, (fun _ => 0)), (20, 5, (fun _ => 0)), (21, 504, (fun _ => 0)), (21, 504, (fun _ => 0)), (20, 15, (fun _ => 0)), (20, 15, (fun _ => 0))]) M117 := mM114.wr 2 eM117 rfl rfl
  have q_M117 : mN M117 = n + 27 := mM117.1.2
  exact h _ mM117
