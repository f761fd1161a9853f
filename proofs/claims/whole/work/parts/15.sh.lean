def shpL : List (Nat × Int) := [(10, 16), (3, 17), (20, 5), (20, 5), (20, 5), (20, 2), (20, 2), (20, 2), (20, 3), (24, 6), (20, 5), (20, 6), (20, 5), (23, 2), (20, 400), (20, 5), (6, 9), (20, 401), (20, 401), (20, 12), (20, 13), (20, 400), (0, 3), (20, 7), (21, 64), (7, 7), (20, 161), (20, 161), (20, 161), (20, 5940), (2, 5), (20, 5), (8, 12), (21, 18504), (20, 2916), (21, 14), (21, 14), (21, 6), (21, 6), (5, 12), (20, 120), (21, 14), (21, 14), (21, 14), (8, 12), (21, 18504), (20, 2916), (21, 14), (21, 14), (21, 6), (21, 6), (1, 9), (21, 84), (21, 84), (21, 14), (21, 14), (21, 14), (21, 6), (21, 6), (9, 13), (20, 5), (20, 5), (20, 5), (9, 13), (20, 5), (20, 5), (20, 5), (11, 54), (20, 7), (20, 5460), (20, 10920), (22, 2), (20, 400), (20, 96), (20, 400), (20, 400), (20, 400), (20, 400), (21, 7), (21, 13), (21, 400), (21, 96768), (20, 6912), (21, 14), (21, 14), (21, 14), (21, 14), (21, 72), (20, 5), (20, 5), (21, 504), (21, 504), (20, 15), (20, 15)]
def shp (a : Int) : Nat × Int := shpL.getD a.toNat (0, 0)
def refL : List (Int × Int × Int) := [(0, 0, 1), (0, 1, 13), (0, 2, 14), (0, 6, 15), (0, 8, 16), (0, 9, 22), (0, 10, 25), (0, 11, 30), (0, 12, 39), (0, 13, 51), (0, 14, 59), (0, 15, 63), (1, 1, 2), (1, 2, 3), (1, 3, 4), (1, 4, 5), (1, 5, 6), (1, 6, 7), (1, 7, 8), (1, 8, 9), (1, 11, 10), (1, 14, 11), (1, 15, 12), (16, 0, 17), (16, 1, 18), (16, 5, 19), (16, 6, 20), (16, 7, 21), (22, 0, 1), (22, 1, 23), (22, 2, 24), (25, 0, 1), (25, 1, 22), (25, 2, 26), (25, 3, 27), (25, 4, 28), (25, 5, 29), (30, 0, 1), (30, 1, 25), (30, 2, 32), (30, 3, 31), (32, 0, 1), (32, 1, 25), (32, 2, (-1)), (32, 3, 33), (32, 4, 34), (32, 5, 35), (32, 6, 36), (32, 7, 37), (32, 8, 38), (39, 0, 1), (39, 1, 25), (39, 2, 30), (39, 3, 44), (39, 5, 40), (39, 9, 41), (39, 10, 42), (39, 11, 43), (44, 0, 1), (44, 1, 25), (44, 2, 30), (44, 3, 45), (44, 4, 46), (44, 5, 47), (44, 6, 48), (44, 7, 49), (44, 8, 50), (51, 0, 1), (51, 1, 22), (51, 2, 52), (51, 3, 53), (51, 4, 54), (51, 5, 55), (51, 6, 56), (51, 7, 57), (51, 8, 58), (59, 0, 1), (59, 1, 25), (59, 2, 30), (59, 4, 60), (59, 5, 61), (59, 6, 62), (63, 0, 1), (63, 1, 25), (63, 2, 30), (63, 4, 64), (63, 5, 65), (63, 6, 66), (67, 2, 68), (67, 3, 69), (67, 4, 70), (67, 5, 71), (67, 7, 72), (67, 16, 73), (67, 18, 74), (67, 19, 75), (67, 21, 76), (67, 22, 77), (67, 25, 78), (67, 27, 79), (67, 28, 80), (67, 32, 81), (67, 33, 82), (67, 34, 83), (67, 35, 84), (67, 36, 85), (67, 37, 86), (67, 38, 87), (67, 40, 88), (67, 42, 89), (67, 45, 90), (67, 46, 91), (67, 49, 92), (67, 53, 93)]
def Sh (M : MM) : Prop := 94 ≤ mN M ∧ (∀ a : Int, 0 ≤ a → a < 94 → mT M a = shp a) ∧ ∀ p ∈ refL, rd M p.1 p.2.1 = p.2.2
def upA (M : MM) (a : Int) (f : Int → Int) : MM := (M.1, M.2.1, fun b j => if b = a then f j else M.2.2 b j)
theorem rd_up (M : MM) (a : Int) (f : Int → Int) (b j : Int) : rd (upA M a f) b j = if b = a then f j else rd M b j := rfl
theorem mT_up (M : MM) (a : Int) (f : Int → Int) (b : Int) : mT (upA M a f) b = mT M b := rfl
theorem mN_up (M : MM) (a : Int) (f : Int → Int) : mN (upA M a f) = mN M := rfl
theorem Sh.O {M : MM} (h : Sh M) (a : Int) (kd : Nat) (h0 : 0 ≤ a) (h1 : a < 94) (hk : (shp a).1 = kd) : okO M a kd := ⟨h0, Int.lt_of_lt_of_le h1 h.1, by rw [h.2.1 a h0 h1, hk]⟩
theorem Sh.A {M : MM} (h : Sh M) (a : Int) (kd : Nat) (len : Int) (h0 : 0 ≤ a) (h1 : a < 94) (hk : shp a = (kd, len)) {i : Int} (i0 : 0 ≤ i) (i1 : i < len) : okA M a kd i := ⟨h0, Int.lt_of_lt_of_le h1 h.1, by rw [h.2.1 a h0 h1, hk], i0, by rw [h.2.1 a h0 h1, hk]; exact i1⟩
theorem Sh.L {M : MM} (h : Sh M) (a : Int) (kd : Nat) (len : Int) (h0 : 0 ≤ a) (h1 : a < 94) (hk : shp a = (kd, len)) : (mT M a).2 = len := by rw [h.2.1 a h0 h1, hk]
theorem Sh.R {M : MM} (h : Sh M) (i : Nat) {a j v : Int} (hi : refL[i]? = some (a, j, v)) : rd M a j = v := h.2.2 _ (List.mem_of_getElem? hi)
theorem refL_lt : ∀ p ∈ refL, p.1 < 94 := by decide +kernel
theorem Sh.wr' {M : MM} (h : Sh M) {a i v : Int} (hn : ∀ p ∈ refL, ¬ (p.1 = a ∧ p.2.1 = i)) : Sh (wr M a i v) := ⟨h.1, h.2.1, fun p hp => by rw [rd_wr, if_neg (hn p hp)]; exact h.2.2 p hp⟩
theorem Sh.wA {M : MM} (h : Sh M) (a : Int) (hn : refL.all (fun p => p.1 != a) = true) {i v : Int} : Sh (wr M a i v) := h.wr' fun p hp q => by
  have := List.all_eq_true.mp hn p hp
  simp at this; exact this q.1
theorem Sh.wF {M : MM} (h : Sh M) (a i : Int) (hn : refL.all (fun p => p.1 != a || p.2.1 != i) = true) {v : Int} : Sh (wr M a i v) := h.wr' fun p hp q => by
  have := List.all_eq_true.mp hn p hp
  simp [q.1, q.2] at this
theorem Sh.uA {M : MM} (h : Sh M) (a : Int) (hn : refL.all (fun p => p.1 != a) = true) {f : Int → Int} : Sh (upA M a f) := ⟨h.1, h.2.1, fun p hp => by
  have := List.all_eq_true.mp hn p hp
  simp at this
  rw [rd_up, if_neg this]; exact h.2.2 p hp⟩
theorem sAl {M : MM} (h : Sh M) {kd : Nat} {n : Int} {f : Int → Int} : Sh (al M kd n f) := ⟨by rw [mN_al]; have := h.1; omega, fun a h0 h1 => by rw [mT_al, if_neg (by have := h.1; omega)]; exact h.2.1 a h0 h1, fun p hp => by rw [rd_al, if_neg (by have := h.1; have := refL_lt p hp; omega)]; exact h.2.2 p hp⟩
theorem Sh.hi {M : MM} (h : Sh M) {a i v : Int} (ha : 94 ≤ a) : Sh (wr M a i v) := h.wr' fun p hp q => by have := refL_lt p hp; omega
theorem Sh.hiU {M : MM} (h : Sh M) {a : Int} {f : Int → Int} (ha : 94 ≤ a) : Sh (upA M a f) := ⟨h.1, h.2.1, fun p hp => by rw [rd_up, if_neg (by have := refL_lt p hp; omega)]; exact h.2.2 p hp⟩
def tG (t : Int) : Int := if t = 32 then -1 else 30
theorem sO_0 {M : MM} (h : Sh M) : okO M 0 10 := h.O 0 10 (by decide) (by decide) rfl
theorem sW_0_3 {M : MM} (h : Sh M) {v : Int} : Sh (wr M 0 3 v) := h.wF 0 3 (by decide)
theorem sW_0_4 {M : MM} (h : Sh M) {v : Int} : Sh (wr M 0 4 v) := h.wF 0 4 (by decide)
theorem sW_0_5 {M : MM} (h : Sh M) {v : Int} : Sh (wr M 0 5 v) := h.wF 0 5 (by decide)
theorem sW_0_7 {M : MM} (h : Sh M) {v : Int} : Sh (wr M 0 7 v) := h.wF 0 7 (by decide)
theorem sO_1 {M : MM} (h : Sh M) : okO M 1 3 := h.O 1 3 (by decide) (by decide) rfl
theorem sW_1_0 {M : MM} (h : Sh M) {v : Int} : Sh (wr M 1 0 v) := h.wF 1 0 (by decide)
theorem sW_1_9 {M : MM} (h : Sh M) {v : Int} : Sh (wr M 1 9 v) := h.wF 1 9 (by decide)
theorem sW_1_10 {M : MM} (h : Sh M) {v : Int} : Sh (wr M 1 10 v) := h.wF 1 10 (by decide)
theorem sW_1_12 {M : MM} (h : Sh M) {v : Int} : Sh (wr M 1 12 v) := h.wF 1 12 (by decide)
theorem sW_1_13 {M : MM} (h : Sh M) {v : Int} : Sh (wr M 1 13 v) := h.wF 1 13 (by decide)
theorem sW_1_16 {M : MM} (h : Sh M) {v : Int} : Sh (wr M 1 16 v) := h.wF 1 16 (by decide)
theorem sO_2 {M : MM} (h : Sh M) : okO M 2 20 := h.O 2 20 (by decide) (by decide) rfl
theorem sA_2 {M : MM} (h : Sh M) {i : Int} (h0 : 0 ≤ i) (h1 : i < 5) : okA M 2 20 i := h.A 2 20 5 (by decide) (by decide) rfl h0 h1
theorem sL_2 {M : MM} (h : Sh M) : (mT M 2).2 = 5 := h.L 2 20 5 (by decide) (by decide) rfl
theorem sW_2 {M : MM} (h : Sh M) {i v : Int} : Sh (wr M 2 i v) := h.wA 2 (by decide)
theorem sU_2 {M : MM} (h : Sh M) {f : Int → Int} : Sh (upA M 2 f) := h.uA 2 (by decide)
theorem sO_3 {M : MM} (h : Sh M) : okO M 3 20 := h.O 3 20 (by decide) (by decide) rfl
theorem sA_3 {M : MM} (h : Sh M) {i : Int} (h0 : 0 ≤ i) (h1 : i < 5) : okA M 3 20 i := h.A 3 20 5 (by decide) (by decide) rfl h0 h1
theorem sL_3 {M : MM} (h : Sh M) : (mT M 3).2 = 5 := h.L 3 20 5 (by decide) (by decide) rfl
theorem sW_3 {M : MM} (h : Sh M) {i v : Int} : Sh (wr M 3 i v) := h.wA 3 (by decide)
theorem sU_3 {M : MM} (h : Sh M) {f : Int → Int} : Sh (upA M 3 f) := h.uA 3 (by decide)
theorem sO_4 {M : MM} (h : Sh M) : okO M 4 20 := h.O 4 20 (by decide) (by decide) rfl
theorem sA_4 {M : MM} (h : Sh M) {i : Int} (h0 : 0 ≤ i) (h1 : i < 5) : okA M 4 20 i := h.A 4 20 5 (by decide) (by decide) rfl h0 h1
theorem sL_4 {M : MM} (h : Sh M) : (mT M 4).2 = 5 := h.L 4 20 5 (by decide) (by decide) rfl
theorem sW_4 {M : MM} (h : Sh M) {i v : Int} : Sh (wr M 4 i v) := h.wA 4 (by decide)
theorem sU_4 {M : MM} (h : Sh M) {f : Int → Int} : Sh (upA M 4 f) := h.uA 4 (by decide)
theorem sO_5 {M : MM} (h : Sh M) : okO M 5 20 := h.O 5 20 (by decide) (by decide) rfl
theorem sA_5 {M : MM} (h : Sh M) {i : Int} (h0 : 0 ≤ i) (h1 : i < 2) : okA M 5 20 i := h.A 5 20 2 (by decide) (by decide) rfl h0 h1
theorem sL_5 {M : MM} (h : Sh M) : (mT M 5).2 = 2 := h.L 5 20 2 (by decide) (by decide) rfl
theorem sW_5 {M : MM} (h : Sh M) {i v : Int} : Sh (wr M 5 i v) := h.wA 5 (by decide)
theorem sU_5 {M : MM} (h : Sh M) {f : Int → Int} : Sh (upA M 5 f) := h.uA 5 (by decide)
theorem sO_6 {M : MM} (h : Sh M) : okO M 6 20 := h.O 6 20 (by decide) (by decide) rfl
theorem sA_6 {M : MM} (h : Sh M) {i : Int} (h0 : 0 ≤ i) (h1 : i < 2) : okA M 6 20 i := h.A 6 20 2 (by decide) (by decide) rfl h0 h1
theorem sL_6 {M : MM} (h : Sh M) : (mT M 6).2 = 2 := h.L 6 20 2 (by decide) (by decide) rfl
theorem sW_6 {M : MM} (h : Sh M) {i v : Int} : Sh (wr M 6 i v) := h.wA 6 (by decide)
theorem sU_6 {M : MM} (h : Sh M) {f : Int → Int} : Sh (upA M 6 f) := h.uA 6 (by decide)
theorem sO_7 {M : MM} (h : Sh M) : okO M 7 20 := h.O 7 20 (by decide) (by decide) rfl
theorem sA_7 {M : MM} (h : Sh M) {i : Int} (h0 : 0 ≤ i) (h1 : i < 2) : okA M 7 20 i := h.A 7 20 2 (by decide) (by decide) rfl h0 h1
theorem sL_7 {M : MM} (h : Sh M) : (mT M 7).2 = 2 := h.L 7 20 2 (by decide) (by decide) rfl
theorem sW_7 {M : MM} (h : Sh M) {i v : Int} : Sh (wr M 7 i v) := h.wA 7 (by decide)
theorem sU_7 {M : MM} (h : Sh M) {f : Int → Int} : Sh (upA M 7 f) := h.uA 7 (by decide)
theorem sO_8 {M : MM} (h : Sh M) : okO M 8 20 := h.O 8 20 (by decide) (by decide) rfl
theorem sA_8 {M : MM} (h : Sh M) {i : Int} (h0 : 0 ≤ i) (h1 : i < 3) : okA M 8 20 i := h.A 8 20 3 (by decide) (by decide) rfl h0 h1
theorem sL_8 {M : MM} (h : Sh M) : (mT M 8).2 = 3 := h.L 8 20 3 (by decide) (by decide) rfl
theorem sW_8 {M : MM} (h : Sh M) {i v : Int} : Sh (wr M 8 i v) := h.wA 8 (by decide)
theorem sU_8 {M : MM} (h : Sh M) {f : Int → Int} : Sh (upA M 8 f) := h.uA 8 (by decide)
theorem sO_9 {M : MM} (h : Sh M) : okO M 9 24 := h.O 9 24 (by decide) (by decide) rfl
theorem sA_9 {M : MM} (h : Sh M) {i : Int} (h0 : 0 ≤ i) (h1 : i < 6) : okA M 9 24 i := h.A 9 24 6 (by decide) (by decide) rfl h0 h1
theorem sL_9 {M : MM} (h : Sh M) : (mT M 9).2 = 6 := h.L 9 24 6 (by decide) (by decide) rfl
theorem sW_9 {M : MM} (h : Sh M) {i v : Int} : Sh (wr M 9 i v) := h.wA 9 (by decide)
theorem sU_9 {M : MM} (h : Sh M) {f : Int → Int} : Sh (upA M 9 f) := h.uA 9 (by decide)
theorem sO_10 {M : MM} (h : Sh M) : okO M 10 20 := h.O 10 20 (by decide) (by decide) rfl
theorem sA_10 {M : MM} (h : Sh M) {i : Int} (h0 : 0 ≤ i) (h1 : i < 5) : okA M 10 20 i := h.A 10 20 5 (by decide) (by decide) rfl h0 h1
theorem sL_10 {M : MM} (h : Sh M) : (mT M 10).2 = 5 := h.L 10 20 5 (by decide) (by decide) rfl
theorem sW_10 {M : MM} (h : Sh M) {i v : Int} : Sh (wr M 10 i v) := h.wA 10 (by decide)
theorem sU_10 {M : MM} (h : Sh M) {f : Int → Int} : Sh (upA M 10 f) := h.uA 10 (by decide)
theorem sO_11 {M : MM} (h : Sh M) : okO M 11 20 := h.O 11 20 (by decide) (by decide) rfl
theorem sA_11 {M : MM} (h : Sh M) {i : Int} (h0 : 0 ≤ i) (h1 : i < 6) : okA M 11 20 i := h.A 11 20 6 (by decide) (by decide) rfl h0 h1
theorem sL_11 {M : MM} (h : Sh M) : (mT M 11).2 = 6 := h.L 11 20 6 (by decide) (by decide) rfl
theorem sW_11 {M : MM} (h : Sh M) {i v : Int} : Sh (wr M 11 i v) := h.wA 11 (by decide)
theorem sU_11 {M : MM} (h : Sh M) {f : Int → Int} : Sh (upA M 11 f) := h.uA 11 (by decide)
theorem sO_12 {M : MM} (h : Sh M) : okO M 12 20 := h.O 12 20 (by decide) (by decide) rfl
theorem sA_12 {M : MM} (h : Sh M) {i : Int} (h0 : 0 ≤ i) (h1 : i < 5) : okA M 12 20 i := h.A 12 20 5 (by decide) (by decide) rfl h0 h1
theorem sL_12 {M : MM} (h : Sh M) : (mT M 12).2 = 5 := h.L 12 20 5 (by decide) (by decide) rfl
theorem sW_12 {M : MM} (h : Sh M) {i v : Int} : Sh (wr M 12 i v) := h.wA 12 (by decide)
theorem sU_12 {M : MM} (h : Sh M) {f : Int → Int} : Sh (upA M 12 f) := h.uA 12 (by decide)
theorem sO_13 {M : MM} (h : Sh M) : okO M 13 23 := h.O 13 23 (by decide) (by decide) rfl
theorem sA_13 {M : MM} (h : Sh M) {i : Int} (h0 : 0 ≤ i) (h1 : i < 2) : okA M 13 23 i := h.A 13 23 2 (by decide) (by decide) rfl h0 h1
theorem sL_13 {M : MM} (h : Sh M) : (mT M 13).2 = 2 := h.L 13 23 2 (by decide) (by decide) rfl
theorem sW_13 {M : MM} (h : Sh M) {i v : Int} : Sh (wr M 13 i v) := h.wA 13 (by decide)
theorem sU_13 {M : MM} (h : Sh M) {f : Int → Int} : Sh (upA M 13 f) := h.uA 13 (by decide)
theorem sO_14 {M : MM} (h : Sh M) : okO M 14 20 := h.O 14 20 (by decide) (by decide) rfl
theorem sA_14 {M : MM} (h : Sh M) {i : Int} (h0 : 0 ≤ i) (h1 : i < 400) : okA M 14 20 i := h.A 14 20 400 (by decide) (by decide) rfl h0 h1
theorem sL_14 {M : MM} (h : Sh M) : (mT M 14).2 = 400 := h.L 14 20 400 (by decide) (by decide) rfl
theorem sW_14 {M : MM} (h : Sh M) {i v : Int} : Sh (wr M 14 i v) := h.wA 14 (by decide)
theorem sU_14 {M : MM} (h : Sh M) {f : Int → Int} : Sh (upA M 14 f) := h.uA 14 (by decide)
theorem sO_15 {M : MM} (h : Sh M) : okO M 15 20 := h.O 15 20 (by decide) (by decide) rfl
theorem sA_15 {M : MM} (h : Sh M) {i : Int} (h0 : 0 ≤ i) (h1 : i < 5) : okA M 15 20 i := h.A 15 20 5 (by decide) (by decide) rfl h0 h1
theorem sL_15 {M : MM} (h : Sh M) : (mT M 15).2 = 5 := h.L 15 20 5 (by decide) (by decide) rfl
theorem sW_15 {M : MM} (h : Sh M) {i v : Int} : Sh (wr M 15 i v) := h.wA 15 (by decide)
theorem sU_15 {M : MM} (h : Sh M) {f : Int → Int} : Sh (upA M 15 f) := h.uA 15 (by decide)
theorem sO_16 {M : MM} (h : Sh M) : okO M 16 6 := h.O 16 6 (by decide) (by decide) rfl
theorem sW_16_2 {M : MM} (h : Sh M) {v : Int} : Sh (wr M 16 2 v) := h.wF 16 2 (by decide)
theorem sW_16_3 {M : MM} (h : Sh M) {v : Int} : Sh (wr M 16 3 v) := h.wF 16 3 (by decide)
theorem sW_16_4 {M : MM} (h : Sh M) {v : Int} : Sh (wr M 16 4 v) := h.wF 16 4 (by decide)
theorem sW_16_8 {M : MM} (h : Sh M) {v : Int} : Sh (wr M 16 8 v) := h.wF 16 8 (by decide)
theorem sO_17 {M : MM} (h : Sh M) : okO M 17 20 := h.O 17 20 (by decide) (by decide) rfl
theorem sA_17 {M : MM} (h : Sh M) {i : Int} (h0 : 0 ≤ i) (h1 : i < 401) : okA M 17 20 i := h.A 17 20 401 (by decide) (by decide) rfl h0 h1
theorem sL_17 {M : MM} (h : Sh M) : (mT M 17).2 = 401 := h.L 17 20 401 (by decide) (by decide) rfl
theorem sW_17 {M : MM} (h : Sh M) {i v : Int} : Sh (wr M 17 i v) := h.wA 17 (by decide)
theorem sU_17 {M : MM} (h : Sh M) {f : Int → Int} : Sh (upA M 17 f) := h.uA 17 (by decide)
theorem sO_18 {M : MM} (h : Sh M) : okO M 18 20 := h.O 18 20 (by decide) (by decide) rfl
theorem sA_18 {M : MM} (h : Sh M) {i : Int} (h0 : 0 ≤ i) (h1 : i < 401) : okA M 18 20 i := h.A 18 20 401 (by decide) (by decide) rfl h0 h1
theorem sL_18 {M : MM} (h : Sh M) : (mT M 18).2 = 401 := h.L 18 20 401 (by decide) (by decide) rfl
theorem sW_18 {M : MM} (h : Sh M) {i v : Int} : Sh (wr M 18 i v) := h.wA 18 (by decide)
theorem sU_18 {M : MM} (h : Sh M) {f : Int → Int} : Sh (upA M 18 f) := h.uA 18 (by decide)
theorem sO_19 {M : MM} (h : Sh M) : okO M 19 20 := h.O 19 20 (by decide) (by decide) rfl
theorem sA_19 {M : MM} (h : Sh M) {i : Int} (h0 : 0 ≤ i) (h1 : i < 12) : okA M 19 20 i := h.A 19 20 12 (by decide) (by decide) rfl h0 h1
theorem sL_19 {M : MM} (h : Sh M) : (mT M 19).2 = 12 := h.L 19 20 12 (by decide) (by decide) rfl
theorem sW_19 {M : MM} (h : Sh M) {i v : Int} : Sh (wr M 19 i v) := h.wA 19 (by decide)
theorem sU_19 {M : MM} (h : Sh M) {f : Int → Int} : Sh (upA M 19 f) := h.uA 19 (by decide)
theorem sO_20 {M : MM} (h : Sh M) : okO M 20 20 := h.O 20 20 (by decide) (by decide) rfl
theorem sA_20 {M : MM} (h : Sh M) {i : Int} (h0 : 0 ≤ i) (h1 : i < 13) : okA M 20 20 i := h.A 20 20 13 (by decide) (by decide) rfl h0 h1
theorem sL_20 {M : MM} (h : Sh M) : (mT M 20).2 = 13 := h.L 20 20 13 (by decide) (by decide) rfl
theorem sW_20 {M : MM} (h : Sh M) {i v : Int} : Sh (wr M 20 i v) := h.wA 20 (by decide)
theorem sU_20 {M : MM} (h : Sh M) {f : Int → Int} : Sh (upA M 20 f) := h.uA 20 (by decide)
theorem sO_21 {M : MM} (h : Sh M) : okO M 21 20 := h.O 21 20 (by decide) (by decide) rfl
theorem sA_21 {M : MM} (h : Sh M) {i : Int} (h0 : 0 ≤ i) (h1 : i < 400) : okA M 21 20 i := h.A 21 20 400 (by decide) (by decide) rfl h0 h1
theorem sL_21 {M : MM} (h : Sh M) : (mT M 21).2 = 400 := h.L 21 20 400 (by decide) (by decide) rfl
theorem sW_21 {M : MM} (h : Sh M) {i v : Int} : Sh (wr M 21 i v) := h.wA 21 (by decide)
theorem sU_21 {M : MM} (h : Sh M) {f : Int → Int} : Sh (upA M 21 f) := h.uA 21 (by decide)
theorem sO_22 {M : MM} (h : Sh M) : okO M 22 0 := h.O 22 0 (by decide) (by decide) rfl
theorem sO_23 {M : MM} (h : Sh M) : okO M 23 20 := h.O 23 20 (by decide) (by decide) rfl
theorem sA_23 {M : MM} (h : Sh M) {i : Int} (h0 : 0 ≤ i) (h1 : i < 7) : okA M 23 20 i := h.A 23 20 7 (by decide) (by decide) rfl h0 h1
theorem sL_23 {M : MM} (h : Sh M) : (mT M 23).2 = 7 := h.L 23 20 7 (by decide) (by decide) rfl
theorem sW_23 {M : MM} (h : Sh M) {i v : Int} : Sh (wr M 23 i v) := h.wA 23 (by decide)
theorem sU_23 {M : MM} (h : Sh M) {f : Int → Int} : Sh (upA M 23 f) := h.uA 23 (by decide)
theorem sO_24 {M : MM} (h : Sh M) : okO M 24 21 := h.O 24 21 (by decide) (by decide) rfl
theorem sA_24 {M : MM} (h : Sh M) {i : Int} (h0 : 0 ≤ i) (h1 : i < 64) : okA M 24 21 i := h.A 24 21 64 (by decide) (by decide) rfl h0 h1
theorem sL_24 {M : MM} (h : Sh M) : (mT M 24).2 = 64 := h.L 24 21 64 (by decide) (by decide) rfl
theorem sW_24 {M : MM} (h : Sh M) {i v : Int} : Sh (wr M 24 i v) := h.wA 24 (by decide)
theorem sU_24 {M : MM} (h : Sh M) {f : Int → Int} : Sh (upA M 24 f) := h.uA 24 (by decide)
theorem sO_25 {M : MM} (h : Sh M) : okO M 25 7 := h.O 25 7 (by decide) (by decide) rfl
theorem sW_25_6 {M : MM} (h : Sh M) {v : Int} : Sh (wr M 25 6 v) := h.wF 25 6 (by decide)
theorem sO_26 {M : MM} (h : Sh M) : okO M 26 20 := h.O 26 20 (by decide) (by decide) rfl
theorem sA_26 {M : MM} (h : Sh M) {i : Int} (h0 : 0 ≤ i) (h1 : i < 161) : okA M 26 20 i := h.A 26 20 161 (by decide) (by decide) rfl h0 h1
theorem sL_26 {M : MM} (h : Sh M) : (mT M 26).2 = 161 := h.L 26 20 161 (by decide) (by decide) rfl
theorem sW_26 {M : MM} (h : Sh M) {i v : Int} : Sh (wr M 26 i v) := h.wA 26 (by decide)
theorem sU_26 {M : MM} (h : Sh M) {f : Int → Int} : Sh (upA M 26 f) := h.uA 26 (by decide)
theorem sO_27 {M : MM} (h : Sh M) : okO M 27 20 := h.O 27 20 (by decide) (by decide) rfl
theorem sA_27 {M : MM} (h : Sh M) {i : Int} (h0 : 0 ≤ i) (h1 : i < 161) : okA M 27 20 i := h.A 27 20 161 (by decide) (by decide) rfl h0 h1
theorem sL_27 {M : MM} (h : Sh M) : (mT M 27).2 = 161 := h.L 27 20 161 (by decide) (by decide) rfl
theorem sW_27 {M : MM} (h : Sh M) {i v : Int} : Sh (wr M 27 i v) := h.wA 27 (by decide)
theorem sU_27 {M : MM} (h : Sh M) {f : Int → Int} : Sh (upA M 27 f) := h.uA 27 (by decide)
theorem sO_28 {M : MM} (h : Sh M) : okO M 28 20 := h.O 28 20 (by decide) (by decide) rfl
theorem sA_28 {M : MM} (h : Sh M) {i : Int} (h0 : 0 ≤ i) (h1 : i < 161) : okA M 28 20 i := h.A 28 20 161 (by decide) (by decide) rfl h0 h1
theorem sL_28 {M : MM} (h : Sh M) : (mT M 28).2 = 161 := h.L 28 20 161 (by decide) (by decide) rfl
theorem sW_28 {M : MM} (h : Sh M) {i v : Int} : Sh (wr M 28 i v) := h.wA 28 (by decide)
theorem sU_28 {M : MM} (h : Sh M) {f : Int → Int} : Sh (upA M 28 f) := h.uA 28 (by decide)
theorem sO_29 {M : MM} (h : Sh M) : okO M 29 20 := h.O 29 20 (by decide) (by decide) rfl
theorem sA_29 {M : MM} (h : Sh M) {i : Int} (h0 : 0 ≤ i) (h1 : i < 5940) : okA M 29 20 i := h.A 29 20 5940 (by decide) (by decide) rfl h0 h1
theorem sL_29 {M : MM} (h : Sh M) : (mT M 29).2 = 5940 := h.L 29 20 5940 (by decide) (by decide) rfl
theorem sW_29 {M : MM} (h : Sh M) {i v : Int} : Sh (wr M 29 i v) := h.wA 29 (by decide)
theorem sU_29 {M : MM} (h : Sh M) {f : Int → Int} : Sh (upA M 29 f) := h.uA 29 (by decide)
theorem sO_30 {M : MM} (h : Sh M) : okO M 30 2 := h.O 30 2 (by decide) (by decide) rfl
theorem sW_30_4 {M : MM} (h : Sh M) {v : Int} : Sh (wr M 30 4 v) := h.wF 30 4 (by decide)
theorem sO_31 {M : MM} (h : Sh M) : okO M 31 20 := h.O 31 20 (by decide) (by decide) rfl
theorem sA_31 {M : MM} (h : Sh M) {i : Int} (h0 : 0 ≤ i) (h1 : i < 5) : okA M 31 20 i := h.A 31 20 5 (by decide) (by decide) rfl h0 h1
theorem sL_31 {M : MM} (h : Sh M) : (mT M 31).2 = 5 := h.L 31 20 5 (by decide) (by decide) rfl
theorem sW_31 {M : MM} (h : Sh M) {i v : Int} : Sh (wr M 31 i v) := h.wA 31 (by decide)
theorem sU_31 {M : MM} (h : Sh M) {f : Int → Int} : Sh (upA M 31 f) := h.uA 31 (by decide)
theorem sO_32 {M : MM} (h : Sh M) : okO M 32 8 := h.O 32 8 (by decide) (by decide) rfl
theorem sW_32_9 {M : MM} (h : Sh M) {v : Int} : Sh (wr M 32 9 v) := h.wF 32 9 (by decide)
theorem sW_32_10 {M : MM} (h : Sh M) {v : Int} : Sh (wr M 32 10 v) := h.wF 32 10 (by decide)
theorem sW_32_11 {M : MM} (h : Sh M) {v : Int} : Sh (wr M 32 11 v) := h.wF 32 11 (by decide)
theorem sO_33 {M : MM} (h : Sh M) : okO M 33 21 := h.O 33 21 (by decide) (by decide) rfl
theorem sA_33 {M : MM} (h : Sh M) {i : Int} (h0 : 0 ≤ i) (h1 : i < 18504) : okA M 33 21 i := h.A 33 21 18504 (by decide) (by decide) rfl h0 h1
theorem sL_33 {M : MM} (h : Sh M) : (mT M 33).2 = 18504 := h.L 33 21 18504 (by decide) (by decide) rfl
theorem sW_33 {M : MM} (h : Sh M) {i v : Int} : Sh (wr M 33 i v) := h.wA 33 (by decide)
theorem sU_33 {M : MM} (h : Sh M) {f : Int → Int} : Sh (upA M 33 f) := h.uA 33 (by decide)
theorem sO_34 {M : MM} (h : Sh M) : okO M 34 20 := h.O 34 20 (by decide) (by decide) rfl
theorem sA_34 {M : MM} (h : Sh M) {i : Int} (h0 : 0 ≤ i) (h1 : i < 2916) : okA M 34 20 i := h.A 34 20 2916 (by decide) (by decide) rfl h0 h1
theorem sL_34 {M : MM} (h : Sh M) : (mT M 34).2 = 2916 := h.L 34 20 2916 (by decide) (by decide) rfl
theorem sW_34 {M : MM} (h : Sh M) {i v : Int} : Sh (wr M 34 i v) := h.wA 34 (by decide)
theorem sU_34 {M : MM} (h : Sh M) {f : Int → Int} : Sh (upA M 34 f) := h.uA 34 (by decide)
theorem sO_35 {M : MM} (h : Sh M) : okO M 35 21 := h.O 35 21 (by decide) (by decide) rfl
theorem sA_35 {M : MM} (h : Sh M) {i : Int} (h0 : 0 ≤ i) (h1 : i < 14) : okA M 35 21 i := h.A 35 21 14 (by decide) (by decide) rfl h0 h1
theorem sL_35 {M : MM} (h : Sh M) : (mT M 35).2 = 14 := h.L 35 21 14 (by decide) (by decide) rfl
theorem sW_35 {M : MM} (h : Sh M) {i v : Int} : Sh (wr M 35 i v) := h.wA 35 (by decide)
theorem sU_35 {M : MM} (h : Sh M) {f : Int → Int} : Sh (upA M 35 f) := h.uA 35 (by decide)
theorem sO_36 {M : MM} (h : Sh M) : okO M 36 21 := h.O 36 21 (by decide) (by decide) rfl
theorem sA_36 {M : MM} (h : Sh M) {i : Int} (h0 : 0 ≤ i) (h1 : i < 14) : okA M 36 21 i := h.A 36 21 14 (by decide) (by decide) rfl h0 h1
theorem sL_36 {M : MM} (h : Sh M) : (mT M 36).2 = 14 := h.L 36 21 14 (by decide) (by decide) rfl
theorem sW_36 {M : MM} (h : Sh M) {i v : Int} : Sh (wr M 36 i v) := h.wA 36 (by decide)
theorem sU_36 {M : MM} (h : Sh M) {f : Int → Int} : Sh (upA M 36 f) := h.uA 36 (by decide)
theorem sO_37 {M : MM} (h : Sh M) : okO M 37 21 := h.O 37 21 (by decide) (by decide) rfl
theorem sA_37 {M : MM} (h : Sh M) {i : Int} (h0 : 0 ≤ i) (h1 : i < 6) : okA M 37 21 i := h.A 37 21 6 (by decide) (by decide) rfl h0 h1
theorem sL_37 {M : MM} (h : Sh M) : (mT M 37).2 = 6 := h.L 37 21 6 (by decide) (by decide) rfl
theorem sW_37 {M : MM} (h : Sh M) {i v : Int} : Sh (wr M 37 i v) := h.wA 37 (by decide)
theorem sU_37 {M : MM} (h : Sh M) {f : Int → Int} : Sh (upA M 37 f) := h.uA 37 (by decide)
theorem sO_38 {M : MM} (h : Sh M) : okO M 38 21 := h.O 38 21 (by decide) (by decide) rfl
theorem sA_38 {M : MM} (h : Sh M) {i : Int} (h0 : 0 ≤ i) (h1 : i < 6) : okA M 38 21 i := h.A 38 21 6 (by decide) (by decide) rfl h0 h1
theorem sL_38 {M : MM} (h : Sh M) : (mT M 38).2 = 6 := h.L 38 21 6 (by decide) (by decide) rfl
theorem sW_38 {M : MM} (h : Sh M) {i v : Int} : Sh (wr M 38 i v) := h.wA 38 (by decide)
theorem sU_38 {M : MM} (h : Sh M) {f : Int → Int} : Sh (upA M 38 f) := h.uA 38 (by decide)
theorem sO_39 {M : MM} (h : Sh M) : okO M 39 5 := h.O 39 5 (by decide) (by decide) rfl
theorem sW_39_4 {M : MM} (h : Sh M) {v : Int} : Sh (wr M 39 4 v) := h.wF 39 4 (by decide)
theorem sW_39_6 {M : MM} (h : Sh M) {v : Int} : Sh (wr M 39 6 v) := h.wF 39 6 (by decide)
theorem sW_39_7 {M : MM} (h : Sh M) {v : Int} : Sh (wr M 39 7 v) := h.wF 39 7 (by decide)
theorem sW_39_8 {M : MM} (h : Sh M) {v : Int} : Sh (wr M 39 8 v) := h.wF 39 8 (by decide)
theorem sO_40 {M : MM} (h : Sh M) : okO M 40 20 := h.O 40 20 (by decide) (by decide) rfl
theorem sA_40 {M : MM} (h : Sh M) {i : Int} (h0 : 0 ≤ i) (h1 : i < 120) : okA M 40 20 i := h.A 40 20 120 (by decide) (by decide) rfl h0 h1
theorem sL_40 {M : MM} (h : Sh M) : (mT M 40).2 = 120 := h.L 40 20 120 (by decide) (by decide) rfl
theorem sW_40 {M : MM} (h : Sh M) {i v : Int} : Sh (wr M 40 i v) := h.wA 40 (by decide)
theorem sU_40 {M : MM} (h : Sh M) {f : Int → Int} : Sh (upA M 40 f) := h.uA 40 (by decide)
theorem sO_41 {M : MM} (h : Sh M) : okO M 41 21 := h.O 41 21 (by decide) (by decide) rfl
theorem sA_41 {M : MM} (h : Sh M) {i : Int} (h0 : 0 ≤ i) (h1 : i < 14) : okA M 41 21 i := h.A 41 21 14 (by decide) (by decide) rfl h0 h1
theorem sL_41 {M : MM} (h : Sh M) : (mT M 41).2 = 14 := h.L 41 21 14 (by decide) (by decide) rfl
theorem sW_41 {M : MM} (h : Sh M) {i v : Int} : Sh (wr M 41 i v) := h.wA 41 (by decide)
theorem sU_41 {M : MM} (h : Sh M) {f : Int → Int} : Sh (upA M 41 f) := h.uA 41 (by decide)
theorem sO_42 {M : MM} (h : Sh M) : okO M 42 21 := h.O 42 21 (by decide) (by decide) rfl
theorem sA_42 {M : MM} (h : Sh M) {i : Int} (h0 : 0 ≤ i) (h1 : i < 14) : okA M 42 21 i := h.A 42 21 14 (by decide) (by decide) rfl h0 h1
theorem sL_42 {M : MM} (h : Sh M) : (mT M 42).2 = 14 := h.L 42 21 14 (by decide) (by decide) rfl
theorem sW_42 {M : MM} (h : Sh M) {i v : Int} : Sh (wr M 42 i v) := h.wA 42 (by decide)
theorem sU_42 {M : MM} (h : Sh M) {f : Int → Int} : Sh (upA M 42 f) := h.uA 42 (by decide)
theorem sO_43 {M : MM} (h : Sh M) : okO M 43 21 := h.O 43 21 (by decide) (by decide) rfl
theorem sA_43 {M : MM} (h : Sh M) {i : Int} (h0 : 0 ≤ i) (h1 : i < 14) : okA M 43 21 i := h.A 43 21 14 (by decide) (by decide) rfl h0 h1
theorem sL_43 {M : MM} (h : Sh M) : (mT M 43).2 = 14 := h.L 43 21 14 (by decide) (by decide) rfl
theorem sW_43 {M : MM} (h : Sh M) {i v : Int} : Sh (wr M 43 i v) := h.wA 43 (by decide)
theorem sU_43 {M : MM} (h : Sh M) {f : Int → Int} : Sh (upA M 43 f) := h.uA 43 (by decide)
theorem sO_44 {M : MM} (h : Sh M) : okO M 44 8 := h.O 44 8 (by decide) (by decide) rfl
theorem sW_44_9 {M : MM} (h : Sh M) {v : Int} : Sh (wr M 44 9 v) := h.wF 44 9 (by decide)
theorem sW_44_10 {M : MM} (h : Sh M) {v : Int} : Sh (wr M 44 10 v) := h.wF 44 10 (by decide)
theorem sW_44_11 {M : MM} (h : Sh M) {v : Int} : Sh (wr M 44 11 v) := h.wF 44 11 (by decide)
theorem sO_45 {M : MM} (h : Sh M) : okO M 45 21 := h.O 45 21 (by decide) (by decide) rfl
theorem sA_45 {M : MM} (h : Sh M) {i : Int} (h0 : 0 ≤ i) (h1 : i < 18504) : okA M 45 21 i := h.A 45 21 18504 (by decide) (by decide) rfl h0 h1
theorem sL_45 {M : MM} (h : Sh M) : (mT M 45).2 = 18504 := h.L 45 21 18504 (by decide) (by decide) rfl
theorem sW_45 {M : MM} (h : Sh M) {i v : Int} : Sh (wr M 45 i v) := h.wA 45 (by decide)
theorem sU_45 {M : MM} (h : Sh M) {f : Int → Int} : Sh (upA M 45 f) := h.uA 45 (by decide)
theorem sO_46 {M : MM} (h : Sh M) : okO M 46 20 := h.O 46 20 (by decide) (by decide) rfl
theorem sA_46 {M : MM} (h : Sh M) {i : Int} (h0 : 0 ≤ i) (h1 : i < 2916) : okA M 46 20 i := h.A 46 20 2916 (by decide) (by decide) rfl h0 h1
theorem sL_46 {M : MM} (h : Sh M) : (mT M 46).2 = 2916 := h.L 46 20 2916 (by decide) (by decide) rfl
theorem sW_46 {M : MM} (h : Sh M) {i v : Int} : Sh (wr M 46 i v) := h.wA 46 (by decide)
theorem sU_46 {M : MM} (h : Sh M) {f : Int → Int} : Sh (upA M 46 f) := h.uA 46 (by decide)
theorem sO_47 {M : MM} (h : Sh M) : okO M 47 21 := h.O 47 21 (by decide) (by decide) rfl
theorem sA_47 {M : MM} (h : Sh M) {i : Int} (h0 : 0 ≤ i) (h1 : i < 14) : okA M 47 21 i := h.A 47 21 14 (by decide) (by decide) rfl h0 h1
theorem sL_47 {M : MM} (h : Sh M) : (mT M 47).2 = 14 := h.L 47 21 14 (by decide) (by decide) rfl
theorem sW_47 {M : MM} (h : Sh M) {i v : Int} : Sh (wr M 47 i v) := h.wA 47 (by decide)
theorem sU_47 {M : MM} (h : Sh M) {f : Int → Int} : Sh (upA M 47 f) := h.uA 47 (by decide)
theorem sO_48 {M : MM} (h : Sh M) : okO M 48 21 := h.O 48 21 (by decide) (by decide) rfl
theorem sA_48 {M : MM} (h : Sh M) {i : Int} (h0 : 0 ≤ i) (h1 : i < 14) : okA M 48 21 i := h.A 48 21 14 (by decide) (by decide) rfl h0 h1
theorem sL_48 {M : MM} (h : Sh M) : (mT M 48).2 = 14 := h.L 48 21 14 (by decide) (by decide) rfl
theorem sW_48 {M : MM} (h : Sh M) {i v : Int} : Sh (wr M 48 i v) := h.wA 48 (by decide)
theorem sU_48 {M : MM} (h : Sh M) {f : Int → Int} : Sh (upA M 48 f) := h.uA 48 (by decide)
theorem sO_49 {M : MM} (h : Sh M) : okO M 49 21 := h.O 49 21 (by decide) (by decide) rfl
theorem sA_49 {M : MM} (h : Sh M) {i : Int} (h0 : 0 ≤ i) (h1 : i < 6) : okA M 49 21 i := h.A 49 21 6 (by decide) (by decide) rfl h0 h1
theorem sL_49 {M : MM} (h : Sh M) : (mT M 49).2 = 6 := h.L 49 21 6 (by decide) (by decide) rfl
theorem sW_49 {M : MM} (h : Sh M) {i v : Int} : Sh (wr M 49 i v) := h.wA 49 (by decide)
theorem sU_49 {M : MM} (h : Sh M) {f : Int → Int} : Sh (upA M 49 f) := h.uA 49 (by decide)
theorem sO_50 {M : MM} (h : Sh M) : okO M 50 21 := h.O 50 21 (by decide) (by decide) rfl
theorem sA_50 {M : MM} (h : Sh M) {i : Int} (h0 : 0 ≤ i) (h1 : i < 6) : okA M 50 21 i := h.A 50 21 6 (by decide) (by decide) rfl h0 h1
theorem sL_50 {M : MM} (h : Sh M) : (mT M 50).2 = 6 := h.L 50 21 6 (by decide) (by decide) rfl
theorem sW_50 {M : MM} (h : Sh M) {i v : Int} : Sh (wr M 50 i v) := h.wA 50 (by decide)
theorem sU_50 {M : MM} (h : Sh M) {f : Int → Int} : Sh (upA M 50 f) := h.uA 50 (by decide)
theorem sO_51 {M : MM} (h : Sh M) : okO M 51 1 := h.O 51 1 (by decide) (by decide) rfl
theorem sO_52 {M : MM} (h : Sh M) : okO M 52 21 := h.O 52 21 (by decide) (by decide) rfl
theorem sA_52 {M : MM} (h : Sh M) {i : Int} (h0 : 0 ≤ i) (h1 : i < 84) : okA M 52 21 i := h.A 52 21 84 (by decide) (by decide) rfl h0 h1
theorem sL_52 {M : MM} (h : Sh M) : (mT M 52).2 = 84 := h.L 52 21 84 (by decide) (by decide) rfl
theorem sW_52 {M : MM} (h : Sh M) {i v : Int} : Sh (wr M 52 i v) := h.wA 52 (by decide)
theorem sU_52 {M : MM} (h : Sh M) {f : Int → Int} : Sh (upA M 52 f) := h.uA 52 (by decide)
theorem sO_53 {M : MM} (h : Sh M) : okO M 53 21 := h.O 53 21 (by decide) (by decide) rfl
theorem sA_53 {M : MM} (h : Sh M) {i : Int} (h0 : 0 ≤ i) (h1 : i < 84) : okA M 53 21 i := h.A 53 21 84 (by decide) (by decide) rfl h0 h1
theorem sL_53 {M : MM} (h : Sh M) : (mT M 53).2 = 84 := h.L 53 21 84 (by decide) (by decide) rfl
theorem sW_53 {M : MM} (h : Sh M) {i v : Int} : Sh (wr M 53 i v) := h.wA 53 (by decide)
theorem sU_53 {M : MM} (h : Sh M) {f : Int → Int} : Sh (upA M 53 f) := h.uA 53 (by decide)
theorem sO_54 {M : MM} (h : Sh M) : okO M 54 21 := h.O 54 21 (by decide) (by decide) rfl
theorem sA_54 {M : MM} (h : Sh M) {i : Int} (h0 : 0 ≤ i) (h1 : i < 14) : okA M 54 21 i := h.A 54 21 14 (by decide) (by decide) rfl h0 h1
theorem sL_54 {M : MM} (h : Sh M) : (mT M 54).2 = 14 := h.L 54 21 14 (by decide) (by decide) rfl
theorem sW_54 {M : MM} (h : Sh M) {i v : Int} : Sh (wr M 54 i v) := h.wA 54 (by decide)
theorem sU_54 {M : MM} (h : Sh M) {f : Int → Int} : Sh (upA M 54 f) := h.uA 54 (by decide)
theorem sO_55 {M : MM} (h : Sh M) : okO M 55 21 := h.O 55 21 (by decide) (by decide) rfl
theorem sA_55 {M : MM} (h : Sh M) {i : Int} (h0 : 0 ≤ i) (h1 : i < 14) : okA M 55 21 i := h.A 55 21 14 (by decide) (by decide) rfl h0 h1
theorem sL_55 {M : MM} (h : Sh M) : (mT M 55).2 = 14 := h.L 55 21 14 (by decide) (by decide) rfl
theorem sW_55 {M : MM} (h : Sh M) {i v : Int} : Sh (wr M 55 i v) := h.wA 55 (by decide)
theorem sU_55 {M : MM} (h : Sh M) {f : Int → Int} : Sh (upA M 55 f) := h.uA 55 (by decide)
theorem sO_56 {M : MM} (h : Sh M) : okO M 56 21 := h.O 56 21 (by decide) (by decide) rfl
theorem sA_56 {M : MM} (h : Sh M) {i : Int} (h0 : 0 ≤ i) (h1 : i < 14) : okA M 56 21 i := h.A 56 21 14 (by decide) (by decide) rfl h0 h1
theorem sL_56 {M : MM} (h : Sh M) : (mT M 56).2 = 14 := h.L 56 21 14 (by decide) (by decide) rfl
theorem sW_56 {M : MM} (h : Sh M) {i v : Int} : Sh (wr M 56 i v) := h.wA 56 (by decide)
theorem sU_56 {M : MM} (h : Sh M) {f : Int → Int} : Sh (upA M 56 f) := h.uA 56 (by decide)
theorem sO_57 {M : MM} (h : Sh M) : okO M 57 21 := h.O 57 21 (by decide) (by decide) rfl
theorem sA_57 {M : MM} (h : Sh M) {i : Int} (h0 : 0 ≤ i) (h1 : i < 6) : okA M 57 21 i := h.A 57 21 6 (by decide) (by decide) rfl h0 h1
theorem sL_57 {M : MM} (h : Sh M) : (mT M 57).2 = 6 := h.L 57 21 6 (by decide) (by decide) rfl
theorem sW_57 {M : MM} (h : Sh M) {i v : Int} : Sh (wr M 57 i v) := h.wA 57 (by decide)
theorem sU_57 {M : MM} (h : Sh M) {f : Int → Int} : Sh (upA M 57 f) := h.uA 57 (by decide)
theorem sO_58 {M : MM} (h : Sh M) : okO M 58 21 := h.O 58 21 (by decide) (by decide) rfl
theorem sA_58 {M : MM} (h : Sh M) {i : Int} (h0 : 0 ≤ i) (h1 : i < 6) : okA M 58 21 i := h.A 58 21 6 (by decide) (by decide) rfl h0 h1
theorem sL_58 {M : MM} (h : Sh M) : (mT M 58).2 = 6 := h.L 58 21 6 (by decide) (by decide) rfl
theorem sW_58 {M : MM} (h : Sh M) {i v : Int} : Sh (wr M 58 i v) := h.wA 58 (by decide)
theorem sU_58 {M : MM} (h : Sh M) {f : Int → Int} : Sh (upA M 58 f) := h.uA 58 (by decide)
theorem sO_59 {M : MM} (h : Sh M) : okO M 59 9 := h.O 59 9 (by decide) (by decide) rfl
theorem sW_59_3 {M : MM} (h : Sh M) {v : Int} : Sh (wr M 59 3 v) := h.wF 59 3 (by decide)
theorem sW_59_7 {M : MM} (h : Sh M) {v : Int} : Sh (wr M 59 7 v) := h.wF 59 7 (by decide)
theorem sW_59_8 {M : MM} (h : Sh M) {v : Int} : Sh (wr M 59 8 v) := h.wF 59 8 (by decide)
theorem sW_59_9 {M : MM} (h : Sh M) {v : Int} : Sh (wr M 59 9 v) := h.wF 59 9 (by decide)
theorem sW_59_10 {M : MM} (h : Sh M) {v : Int} : Sh (wr M 59 10 v) := h.wF 59 10 (by decide)
theorem sW_59_11 {M : MM} (h : Sh M) {v : Int} : Sh (wr M 59 11 v) := h.wF 59 11 (by decide)
theorem sW_59_12 {M : MM} (h : Sh M) {v : Int} : Sh (wr M 59 12 v) := h.wF 59 12 (by decide)
theorem sO_60 {M : MM} (h : Sh M) : okO M 60 20 := h.O 60 20 (by decide) (by decide) rfl
theorem sA_60 {M : MM} (h : Sh M) {i : Int} (h0 : 0 ≤ i) (h1 : i < 5) : okA M 60 20 i := h.A 60 20 5 (by decide) (by decide) rfl h0 h1
theorem sL_60 {M : MM} (h : Sh M) : (mT M 60).2 = 5 := h.L 60 20 5 (by decide) (by decide) rfl
theorem sW_60 {M : MM} (h : Sh M) {i v : Int} : Sh (wr M 60 i v) := h.wA 60 (by decide)
theorem sU_60 {M : MM} (h : Sh M) {f : Int → Int} : Sh (upA M 60 f) := h.uA 60 (by decide)
theorem sO_61 {M : MM} (h : Sh M) : okO M 61 20 := h.O 61 20 (by decide) (by decide) rfl
theorem sA_61 {M : MM} (h : Sh M) {i : Int} (h0 : 0 ≤ i) (h1 : i < 5) : okA M 61 20 i := h.A 61 20 5 (by decide) (by decide) rfl h0 h1
theorem sL_61 {M : MM} (h : Sh M) : (mT M 61).2 = 5 := h.L 61 20 5 (by decide) (by decide) rfl
theorem sW_61 {M : MM} (h : Sh M) {i v : Int} : Sh (wr M 61 i v) := h.wA 61 (by decide)
theorem sU_61 {M : MM} (h : Sh M) {f : Int → Int} : Sh (upA M 61 f) := h.uA 61 (by decide)
theorem sO_62 {M : MM} (h : Sh M) : okO M 62 20 := h.O 62 20 (by decide) (by decide) rfl
theorem sA_62 {M : MM} (h : Sh M) {i : Int} (h0 : 0 ≤ i) (h1 : i < 5) : okA M 62 20 i := h.A 62 20 5 (by decide) (by decide) rfl h0 h1
theorem sL_62 {M : MM} (h : Sh M) : (mT M 62).2 = 5 := h.L 62 20 5 (by decide) (by decide) rfl
theorem sW_62 {M : MM} (h : Sh M) {i v : Int} : Sh (wr M 62 i v) := h.wA 62 (by decide)
theorem sU_62 {M : MM} (h : Sh M) {f : Int → Int} : Sh (upA M 62 f) := h.uA 62 (by decide)
theorem sO_63 {M : MM} (h : Sh M) : okO M 63 9 := h.O 63 9 (by decide) (by decide) rfl
theorem sW_63_3 {M : MM} (h : Sh M) {v : Int} : Sh (wr M 63 3 v) := h.wF 63 3 (by decide)
theorem sW_63_7 {M : MM} (h : Sh M) {v : Int} : Sh (wr M 63 7 v) := h.wF 63 7 (by decide)
theorem sW_63_8 {M : MM} (h : Sh M) {v : Int} : Sh (wr M 63 8 v) := h.wF 63 8 (by decide)
theorem sW_63_9 {M : MM} (h : Sh M) {v : Int} : Sh (wr M 63 9 v) := h.wF 63 9 (by decide)
theorem sW_63_10 {M : MM} (h : Sh M) {v : Int} : Sh (wr M 63 10 v) := h.wF 63 10 (by decide)
theorem sW_63_11 {M : MM} (h : Sh M) {v : Int} : Sh (wr M 63 11 v) := h.wF 63 11 (by decide)
theorem sW_63_12 {M : MM} (h : Sh M) {v : Int} : Sh (wr M 63 12 v) := h.wF 63 12 (by decide)
theorem sO_64 {M : MM} (h : Sh M) : okO M 64 20 := h.O 64 20 (by decide) (by decide) rfl
theorem sA_64 {M : MM} (h : Sh M) {i : Int} (h0 : 0 ≤ i) (h1 : i < 5) : okA M 64 20 i := h.A 64 20 5 (by decide) (by decide) rfl h0 h1
theorem sL_64 {M : MM} (h : Sh M) : (mT M 64).2 = 5 := h.L 64 20 5 (by decide) (by decide) rfl
theorem sW_64 {M : MM} (h : Sh M) {i v : Int} : Sh (wr M 64 i v) := h.wA 64 (by decide)
theorem sU_64 {M : MM} (h : Sh M) {f : Int → Int} : Sh (upA M 64 f) := h.uA 64 (by decide)
theorem sO_65 {M : MM} (h : Sh M) : okO M 65 20 := h.O 65 20 (by decide) (by decide) rfl
theorem sA_65 {M : MM} (h : Sh M) {i : Int} (h0 : 0 ≤ i) (h1 : i < 5) : okA M 65 20 i := h.A 65 20 5 (by decide) (by decide) rfl h0 h1
theorem sL_65 {M : MM} (h : Sh M) : (mT M 65).2 = 5 := h.L 65 20 5 (by decide) (by decide) rfl
theorem sW_65 {M : MM} (h : Sh M) {i v : Int} : Sh (wr M 65 i v) := h.wA 65 (by decide)
theorem sU_65 {M : MM} (h : Sh M) {f : Int → Int} : Sh (upA M 65 f) := h.uA 65 (by decide)
theorem sO_66 {M : MM} (h : Sh M) : okO M 66 20 := h.O 66 20 (by decide) (by decide) rfl
theorem sA_66 {M : MM} (h : Sh M) {i : Int} (h0 : 0 ≤ i) (h1 : i < 5) : okA M 66 20 i := h.A 66 20 5 (by decide) (by decide) rfl h0 h1
theorem sL_66 {M : MM} (h : Sh M) : (mT M 66).2 = 5 := h.L 66 20 5 (by decide) (by decide) rfl
theorem sW_66 {M : MM} (h : Sh M) {i v : Int} : Sh (wr M 66 i v) := h.wA 66 (by decide)
theorem sU_66 {M : MM} (h : Sh M) {f : Int → Int} : Sh (upA M 66 f) := h.uA 66 (by decide)
theorem sO_67 {M : MM} (h : Sh M) : okO M 67 11 := h.O 67 11 (by decide) (by decide) rfl
theorem sW_67_0 {M : MM} (h : Sh M) {v : Int} : Sh (wr M 67 0 v) := h.wF 67 0 (by decide)
theorem sW_67_1 {M : MM} (h : Sh M) {v : Int} : Sh (wr M 67 1 v) := h.wF 67 1 (by decide)
theorem sW_67_6 {M : MM} (h : Sh M) {v : Int} : Sh (wr M 67 6 v) := h.wF 67 6 (by decide)
theorem sW_67_8 {M : MM} (h : Sh M) {v : Int} : Sh (wr M 67 8 v) := h.wF 67 8 (by decide)
theorem sW_67_9 {M : MM} (h : Sh M) {v : Int} : Sh (wr M 67 9 v) := h.wF 67 9 (by decide)
theorem sW_67_10 {M : MM} (h : Sh M) {v : Int} : Sh (wr M 67 10 v) := h.wF 67 10 (by decide)
theorem sW_67_11 {M : MM} (h : Sh M) {v : Int} : Sh (wr M 67 11 v) := h.wF 67 11 (by decide)
theorem sW_67_12 {M : MM} (h : Sh M) {v : Int} : Sh (wr M 67 12 v) := h.wF 67 12 (by decide)
theorem sW_67_13 {M : MM} (h : Sh M) {v : Int} : Sh (wr M 67 13 v) := h.wF 67 13 (by decide)
theorem sW_67_14 {M : MM} (h : Sh M) {v : Int} : Sh (wr M 67 14 v) := h.wF 67 14 (by decide)
theorem sW_67_15 {M : MM} (h : Sh M) {v : Int} : Sh (wr M 67 15 v) := h.wF 67 15 (by decide)
theorem sW_67_17 {M : MM} (h : Sh M) {v : Int} : Sh (wr M 67 17 v) := h.wF 67 17 (by decide)
theorem sW_67_20 {M : MM} (h : Sh M) {v : Int} : Sh (wr M 67 20 v) := h.wF 67 20 (by decide)
theorem sW_67_23 {M : MM} (h : Sh M) {v : Int} : Sh (wr M 67 23 v) := h.wF 67 23 (by decide)
theorem sW_67_24 {M : MM} (h : Sh M) {v : Int} : Sh (wr M 67 24 v) := h.wF 67 24 (by decide)
theorem sW_67_26 {M : MM} (h : Sh M) {v : Int} : Sh (wr M 67 26 v) := h.wF 67 26 (by decide)
theorem sW_67_29 {M : MM} (h : Sh M) {v : Int} : Sh (wr M 67 29 v) := h.wF 67 29 (by decide)
theorem sW_67_30 {M : MM} (h : Sh M) {v : Int} : Sh (wr M 67 30 v) := h.wF 67 30 (by decide)
theorem sW_67_31 {M : MM} (h : Sh M) {v : Int} : Sh (wr M 67 31 v) := h.wF 67 31 (by decide)
theorem sW_67_39 {M : MM} (h : Sh M) {v : Int} : Sh (wr M 67 39 v) := h.wF 67 39 (by decide)
theorem sW_67_41 {M : MM} (h : Sh M) {v : Int} : Sh (wr M 67 41 v) := h.wF 67 41 (by decide)
theorem sW_67_43 {M : MM} (h : Sh M) {v : Int} : Sh (wr M 67 43 v) := h.wF 67 43 (by decide)
theorem sW_67_44 {M : MM} (h : Sh M) {v : Int} : Sh (wr M 67 44 v) := h.wF 67 44 (by decide)
theorem sW_67_47 {M : MM} (h : Sh M) {v : Int} : Sh (wr M 67 47 v) := h.wF 67 47 (by decide)
theorem sW_67_48 {M : MM} (h : Sh M) {v : Int} : Sh (wr M 67 48 v) := h.wF 67 48 (by decide)
theorem sW_67_50 {M : MM} (h : Sh M) {v : Int} : Sh (wr M 67 50 v) := h.wF 67 50 (by decide)
theorem sW_67_51 {M : MM} (h : Sh M) {v : Int} : Sh (wr M 67 51 v) := h.wF 67 51 (by decide)
theorem sW_67_52 {M : MM} (h : Sh M) {v : Int} : Sh (wr M 67 52 v) := h.wF 67 52 (by decide)
theorem sO_68 {M : MM} (h : Sh M) : okO M 68 20 := h.O 68 20 (by decide) (by decide) rfl
theorem sA_68 {M : MM} (h : Sh M) {i : Int} (h0 : 0 ≤ i) (h1 : i < 7) : okA M 68 20 i := h.A 68 20 7 (by decide) (by decide) rfl h0 h1
theorem sL_68 {M : MM} (h : Sh M) : (mT M 68).2 = 7 := h.L 68 20 7 (by decide) (by decide) rfl
theorem sW_68 {M : MM} (h : Sh M) {i v : Int} : Sh (wr M 68 i v) := h.wA 68 (by decide)
theorem sU_68 {M : MM} (h : Sh M) {f : Int → Int} : Sh (upA M 68 f) := h.uA 68 (by decide)
theorem sO_69 {M : MM} (h : Sh M) : okO M 69 20 := h.O 69 20 (by decide) (by decide) rfl
theorem sA_69 {M : MM} (h : Sh M) {i : Int} (h0 : 0 ≤ i) (h1 : i < 5460) : okA M 69 20 i := h.A 69 20 5460 (by decide) (by decide) rfl h0 h1
theorem sL_69 {M : MM} (h : Sh M) : (mT M 69).2 = 5460 := h.L 69 20 5460 (by decide) (by decide) rfl
theorem sW_69 {M : MM} (h : Sh M) {i v : Int} : Sh (wr M 69 i v) := h.wA 69 (by decide)
theorem sU_69 {M : MM} (h : Sh M) {f : Int → Int} : Sh (upA M 69 f) := h.uA 69 (by decide)
theorem sO_70 {M : MM} (h : Sh M) : okO M 70 20 := h.O 70 20 (by decide) (by decide) rfl
theorem sA_70 {M : MM} (h : Sh M) {i : Int} (h0 : 0 ≤ i) (h1 : i < 10920) : okA M 70 20 i := h.A 70 20 10920 (by decide) (by decide) rfl h0 h1
theorem sL_70 {M : MM} (h : Sh M) : (mT M 70).2 = 10920 := h.L 70 20 10920 (by decide) (by decide) rfl
theorem sW_70 {M : MM} (h : Sh M) {i v : Int} : Sh (wr M 70 i v) := h.wA 70 (by decide)
theorem sU_70 {M : MM} (h : Sh M) {f : Int → Int} : Sh (upA M 70 f) := h.uA 70 (by decide)
theorem sO_71 {M : MM} (h : Sh M) : okO M 71 22 := h.O 71 22 (by decide) (by decide) rfl
theorem sA_71 {M : MM} (h : Sh M) {i : Int} (h0 : 0 ≤ i) (h1 : i < 2) : okA M 71 22 i := h.A 71 22 2 (by decide) (by decide) rfl h0 h1
theorem sL_71 {M : MM} (h : Sh M) : (mT M 71).2 = 2 := h.L 71 22 2 (by decide) (by decide) rfl
theorem sW_71 {M : MM} (h : Sh M) {i v : Int} : Sh (wr M 71 i v) := h.wA 71 (by decide)
theorem sU_71 {M : MM} (h : Sh M) {f : Int → Int} : Sh (upA M 71 f) := h.uA 71 (by decide)
theorem sO_72 {M : MM} (h : Sh M) : okO M 72 20 := h.O 72 20 (by decide) (by decide) rfl
theorem sA_72 {M : MM} (h : Sh M) {i : Int} (h0 : 0 ≤ i) (h1 : i < 400) : okA M 72 20 i := h.A 72 20 400 (by decide) (by decide) rfl h0 h1
theorem sL_72 {M : MM} (h : Sh M) : (mT M 72).2 = 400 := h.L 72 20 400 (by decide) (by decide) rfl
theorem sW_72 {M : MM} (h : Sh M) {i v : Int} : Sh (wr M 72 i v) := h.wA 72 (by decide)
theorem sU_72 {M : MM} (h : Sh M) {f : Int → Int} : Sh (upA M 72 f) := h.uA 72 (by decide)
theorem sO_73 {M : MM} (h : Sh M) : okO M 73 20 := h.O 73 20 (by decide) (by decide) rfl
theorem sA_73 {M : MM} (h : Sh M) {i : Int} (h0 : 0 ≤ i) (h1 : i < 96) : okA M 73 20 i := h.A 73 20 96 (by decide) (by decide) rfl h0 h1
theorem sL_73 {M : MM} (h : Sh M) : (mT M 73).2 = 96 := h.L 73 20 96 (by decide) (by decide) rfl
theorem sW_73 {M : MM} (h : Sh M) {i v : Int} : Sh (wr M 73 i v) := h.wA 73 (by decide)
theorem sU_73 {M : MM} (h : Sh M) {f : Int → Int} : Sh (upA M 73 f) := h.uA 73 (by decide)
theorem sO_74 {M : MM} (h : Sh M) : okO M 74 20 := h.O 74 20 (by decide) (by decide) rfl
theorem sA_74 {M : MM} (h : Sh M) {i : Int} (h0 : 0 ≤ i) (h1 : i < 400) : okA M 74 20 i := h.A 74 20 400 (by decide) (by decide) rfl h0 h1
theorem sL_74 {M : MM} (h : Sh M) : (mT M 74).2 = 400 := h.L 74 20 400 (by decide) (by decide) rfl
theorem sW_74 {M : MM} (h : Sh M) {i v : Int} : Sh (wr M 74 i v) := h.wA 74 (by decide)
theorem sU_74 {M : MM} (h : Sh M) {f : Int → Int} : Sh (upA M 74 f) := h.uA 74 (by decide)
theorem sO_75 {M : MM} (h : Sh M) : okO M 75 20 := h.O 75 20 (by decide) (by decide) rfl
theorem sA_75 {M : MM} (h : Sh M) {i : Int} (h0 : 0 ≤ i) (h1 : i < 400) : okA M 75 20 i := h.A 75 20 400 (by decide) (by decide) rfl h0 h1
theorem sL_75 {M : MM} (h : Sh M) : (mT M 75).2 = 400 := h.L 75 20 400 (by decide) (by decide) rfl
theorem sW_75 {M : MM} (h : Sh M) {i v : Int} : Sh (wr M 75 i v) := h.wA 75 (by decide)
theorem sU_75 {M : MM} (h : Sh M) {f : Int → Int} : Sh (upA M 75 f) := h.uA 75 (by decide)
theorem sO_76 {M : MM} (h : Sh M) : okO M 76 20 := h.O 76 20 (by decide) (by decide) rfl
theorem sA_76 {M : MM} (h : Sh M) {i : Int} (h0 : 0 ≤ i) (h1 : i < 400) : okA M 76 20 i := h.A 76 20 400 (by decide) (by decide) rfl h0 h1
theorem sL_76 {M : MM} (h : Sh M) : (mT M 76).2 = 400 := h.L 76 20 400 (by decide) (by decide) rfl
theorem sW_76 {M : MM} (h : Sh M) {i v : Int} : Sh (wr M 76 i v) := h.wA 76 (by decide)
theorem sU_76 {M : MM} (h : Sh M) {f : Int → Int} : Sh (upA M 76 f) := h.uA 76 (by decide)
theorem sO_77 {M : MM} (h : Sh M) : okO M 77 20 := h.O 77 20 (by decide) (by decide) rfl
theorem sA_77 {M : MM} (h : Sh M) {i : Int} (h0 : 0 ≤ i) (h1 : i < 400) : okA M 77 20 i := h.A 77 20 400 (by decide) (by decide) rfl h0 h1
theorem sL_77 {M : MM} (h : Sh M) : (mT M 77).2 = 400 := h.L 77 20 400 (by decide) (by decide) rfl
theorem sW_77 {M : MM} (h : Sh M) {i v : Int} : Sh (wr M 77 i v) := h.wA 77 (by decide)
theorem sU_77 {M : MM} (h : Sh M) {f : Int → Int} : Sh (upA M 77 f) := h.uA 77 (by decide)
theorem sO_78 {M : MM} (h : Sh M) : okO M 78 21 := h.O 78 21 (by decide) (by decide) rfl
theorem sA_78 {M : MM} (h : Sh M) {i : Int} (h0 : 0 ≤ i) (h1 : i < 7) : okA M 78 21 i := h.A 78 21 7 (by decide) (by decide) rfl h0 h1
theorem sL_78 {M : MM} (h : Sh M) : (mT M 78).2 = 7 := h.L 78 21 7 (by decide) (by decide) rfl
theorem sW_78 {M : MM} (h : Sh M) {i v : Int} : Sh (wr M 78 i v) := h.wA 78 (by decide)
theorem sU_78 {M : MM} (h : Sh M) {f : Int → Int} : Sh (upA M 78 f) := h.uA 78 (by decide)
theorem sO_79 {M : MM} (h : Sh M) : okO M 79 21 := h.O 79 21 (by decide) (by decide) rfl
theorem sA_79 {M : MM} (h : Sh M) {i : Int} (h0 : 0 ≤ i) (h1 : i < 13) : okA M 79 21 i := h.A 79 21 13 (by decide) (by decide) rfl h0 h1
theorem sL_79 {M : MM} (h : Sh M) : (mT M 79).2 = 13 := h.L 79 21 13 (by decide) (by decide) rfl
theorem sW_79 {M : MM} (h : Sh M) {i v : Int} : Sh (wr M 79 i v) := h.wA 79 (by decide)
theorem sU_79 {M : MM} (h : Sh M) {f : Int → Int} : Sh (upA M 79 f) := h.uA 79 (by decide)
theorem sO_80 {M : MM} (h : Sh M) : okO M 80 21 := h.O 80 21 (by decide) (by decide) rfl
theorem sA_80 {M : MM} (h : Sh M) {i : Int} (h0 : 0 ≤ i) (h1 : i < 400) : okA M 80 21 i := h.A 80 21 400 (by decide) (by decide) rfl h0 h1
theorem sL_80 {M : MM} (h : Sh M) : (mT M 80).2 = 400 := h.L 80 21 400 (by decide) (by decide) rfl
theorem sW_80 {M : MM} (h : Sh M) {i v : Int} : Sh (wr M 80 i v) := h.wA 80 (by decide)
theorem sU_80 {M : MM} (h : Sh M) {f : Int → Int} : Sh (upA M 80 f) := h.uA 80 (by decide)
theorem sO_81 {M : MM} (h : Sh M) : okO M 81 21 := h.O 81 21 (by decide) (by decide) rfl
theorem sA_81 {M : MM} (h : Sh M) {i : Int} (h0 : 0 ≤ i) (h1 : i < 96768) : okA M 81 21 i := h.A 81 21 96768 (by decide) (by decide) rfl h0 h1
theorem sL_81 {M : MM} (h : Sh M) : (mT M 81).2 = 96768 := h.L 81 21 96768 (by decide) (by decide) rfl
theorem sW_81 {M : MM} (h : Sh M) {i v : Int} : Sh (wr M 81 i v) := h.wA 81 (by decide)
theorem sU_81 {M : MM} (h : Sh M) {f : Int → Int} : Sh (upA M 81 f) := h.uA 81 (by decide)
theorem sO_82 {M : MM} (h : Sh M) : okO M 82 20 := h.O 82 20 (by decide) (by decide) rfl
theorem sA_82 {M : MM} (h : Sh M) {i : Int} (h0 : 0 ≤ i) (h1 : i < 6912) : okA M 82 20 i := h.A 82 20 6912 (by decide) (by decide) rfl h0 h1
theorem sL_82 {M : MM} (h : Sh M) : (mT M 82).2 = 6912 := h.L 82 20 6912 (by decide) (by decide) rfl
theorem sW_82 {M : MM} (h : Sh M) {i v : Int} : Sh (wr M 82 i v) := h.wA 82 (by decide)
theorem sU_82 {M : MM} (h : Sh M) {f : Int → Int} : Sh (upA M 82 f) := h.uA 82 (by decide)
theorem sO_83 {M : MM} (h : Sh M) : okO M 83 21 := h.O 83 21 (by decide) (by decide) rfl
theorem sA_83 {M : MM} (h : Sh M) {i : Int} (h0 : 0 ≤ i) (h1 : i < 14) : okA M 83 21 i := h.A 83 21 14 (by decide) (by decide) rfl h0 h1
theorem sL_83 {M : MM} (h : Sh M) : (mT M 83).2 = 14 := h.L 83 21 14 (by decide) (by decide) rfl
theorem sW_83 {M : MM} (h : Sh M) {i v : Int} : Sh (wr M 83 i v) := h.wA 83 (by decide)
theorem sU_83 {M : MM} (h : Sh M) {f : Int → Int} : Sh (upA M 83 f) := h.uA 83 (by decide)
theorem sO_84 {M : MM} (h : Sh M) : okO M 84 21 := h.O 84 21 (by decide) (by decide) rfl
theorem sA_84 {M : MM} (h : Sh M) {i : Int} (h0 : 0 ≤ i) (h1 : i < 14) : okA M 84 21 i := h.A 84 21 14 (by decide) (by decide) rfl h0 h1
theorem sL_84 {M : MM} (h : Sh M) : (mT M 84).2 = 14 := h.L 84 21 14 (by decide) (by decide) rfl
theorem sW_84 {M : MM} (h : Sh M) {i v : Int} : Sh (wr M 84 i v) := h.wA 84 (by decide)
theorem sU_84 {M : MM} (h : Sh M) {f : Int → Int} : Sh (upA M 84 f) := h.uA 84 (by decide)
theorem sO_85 {M : MM} (h : Sh M) : okO M 85 21 := h.O 85 21 (by decide) (by decide) rfl
theorem sA_85 {M : MM} (h : Sh M) {i : Int} (h0 : 0 ≤ i) (h1 : i < 14) : okA M 85 21 i := h.A 85 21 14 (by decide) (by decide) rfl h0 h1
theorem sL_85 {M : MM} (h : Sh M) : (mT M 85).2 = 14 := h.L 85 21 14 (by decide) (by decide) rfl
theorem sW_85 {M : MM} (h : Sh M) {i v : Int} : Sh (wr M 85 i v) := h.wA 85 (by decide)
theorem sU_85 {M : MM} (h : Sh M) {f : Int → Int} : Sh (upA M 85 f) := h.uA 85 (by decide)
theorem sO_86 {M : MM} (h : Sh M) : okO M 86 21 := h.O 86 21 (by decide) (by decide) rfl
theorem sA_86 {M : MM} (h : Sh M) {i : Int} (h0 : 0 ≤ i) (h1 : i < 14) : okA M 86 21 i := h.A 86 21 14 (by decide) (by decide) rfl h0 h1
theorem sL_86 {M : MM} (h : Sh M) : (mT M 86).2 = 14 := h.L 86 21 14 (by decide) (by decide) rfl
theorem sW_86 {M : MM} (h : Sh M) {i v : Int} : Sh (wr M 86 i v) := h.wA 86 (by decide)
theorem sU_86 {M : MM} (h : Sh M) {f : Int → Int} : Sh (upA M 86 f) := h.uA 86 (by decide)
theorem sO_87 {M : MM} (h : Sh M) : okO M 87 21 := h.O 87 21 (by decide) (by decide) rfl
theorem sA_87 {M : MM} (h : Sh M) {i : Int} (h0 : 0 ≤ i) (h1 : i < 72) : okA M 87 21 i := h.A 87 21 72 (by decide) (by decide) rfl h0 h1
theorem sL_87 {M : MM} (h : Sh M) : (mT M 87).2 = 72 := h.L 87 21 72 (by decide) (by decide) rfl
theorem sW_87 {M : MM} (h : Sh M) {i v : Int} : Sh (wr M 87 i v) := h.wA 87 (by decide)
theorem sU_87 {M : MM} (h : Sh M) {f : Int → Int} : Sh (upA M 87 f) := h.uA 87 (by decide)
theorem sO_88 {M : MM} (h : Sh M) : okO M 88 20 := h.O 88 20 (by decide) (by decide) rfl
theorem sA_88 {M : MM} (h : Sh M) {i : Int} (h0 : 0 ≤ i) (h1 : i < 5) : okA M 88 20 i := h.A 88 20 5 (by decide) (by decide) rfl h0 h1
theorem sL_88 {M : MM} (h : Sh M) : (mT M 88).2 = 5 := h.L 88 20 5 (by decide) (by decide) rfl
theorem sW_88 {M : MM} (h : Sh M) {i v : Int} : Sh (wr M 88 i v) := h.wA 88 (by decide)
theorem sU_88 {M : MM} (h : Sh M) {f : Int → Int} : Sh (upA M 88 f) := h.uA 88 (by decide)
theorem sO_89 {M : MM} (h : Sh M) : okO M 89 20 := h.O 89 20 (by decide) (by decide) rfl
theorem sA_89 {M : MM} (h : Sh M) {i : Int} (h0 : 0 ≤ i) (h1 : i < 5) : okA M 89 20 i := h.A 89 20 5 (by decide) (by decide) rfl h0 h1
theorem sL_89 {M : MM} (h : Sh M) : (mT M 89).2 = 5 := h.L 89 20 5 (by decide) (by decide) rfl
theorem sW_89 {M : MM} (h : Sh M) {i v : Int} : Sh (wr M 89 i v) := h.wA 89 (by decide)
theorem sU_89 {M : MM} (h : Sh M) {f : Int → Int} : Sh (upA M 89 f) := h.uA 89 (by decide)
theorem sO_90 {M : MM} (h : Sh M) : okO M 90 21 := h.O 90 21 (by decide) (by decide) rfl
theorem sA_90 {M : MM} (h : Sh M) {i : Int} (h0 : 0 ≤ i) (h1 : i < 504) : okA M 90 21 i := h.A 90 21 504 (by decide) (by decide) rfl h0 h1
theorem sL_90 {M : MM} (h : Sh M) : (mT M 90).2 = 504 := h.L 90 21 504 (by decide) (by decide) rfl
theorem sW_90 {M : MM} (h : Sh M) {i v : Int} : Sh (wr M 90 i v) := h.wA 90 (by decide)
theorem sU_90 {M : MM} (h : Sh M) {f : Int → Int} : Sh (upA M 90 f) := h.uA 90 (by decide)
theorem sO_91 {M : MM} (h : Sh M) : okO M 91 21 := h.O 91 21 (by decide) (by decide) rfl
theorem sA_91 {M : MM} (h : Sh M) {i : Int} (h0 : 0 ≤ i) (h1 : i < 504) : okA M 91 21 i := h.A 91 21 504 (by decide) (by decide) rfl h0 h1
theorem sL_91 {M : MM} (h : Sh M) : (mT M 91).2 = 504 := h.L 91 21 504 (by decide) (by decide) rfl
theorem sW_91 {M : MM} (h : Sh M) {i v : Int} : Sh (wr M 91 i v) := h.wA 91 (by decide)
theorem sU_91 {M : MM} (h : Sh M) {f : Int → Int} : Sh (upA M 91 f) := h.uA 91 (by decide)
theorem sO_92 {M : MM} (h : Sh M) : okO M 92 20 := h.O 92 20 (by decide) (by decide) rfl
theorem sA_92 {M : MM} (h : Sh M) {i : Int} (h0 : 0 ≤ i) (h1 : i < 15) : okA M 92 20 i := h.A 92 20 15 (by decide) (by decide) rfl h0 h1
theorem sL_92 {M : MM} (h : Sh M) : (mT M 92).2 = 15 := h.L 92 20 15 (by decide) (by decide) rfl
theorem sW_92 {M : MM} (h : Sh M) {i v : Int} : Sh (wr M 92 i v) := h.wA 92 (by decide)
theorem sU_92 {M : MM} (h : Sh M) {f : Int → Int} : Sh (upA M 92 f) := h.uA 92 (by decide)
theorem sO_93 {M : MM} (h : Sh M) : okO M 93 20 := h.O 93 20 (by decide) (by decide) rfl
theorem sA_93 {M : MM} (h : Sh M) {i : Int} (h0 : 0 ≤ i) (h1 : i < 15) : okA M 93 20 i := h.A 93 20 15 (by decide) (by decide) rfl h0 h1
theorem sL_93 {M : MM} (h : Sh M) : (mT M 93).2 = 15 := h.L 93 20 15 (by decide) (by decide) rfl
theorem sW_93 {M : MM} (h : Sh M) {i v : Int} : Sh (wr M 93 i v) := h.wA 93 (by decide)
theorem sU_93 {M : MM} (h : Sh M) {f : Int → Int} : Sh (upA M 93 f) := h.uA 93 (by decide)
theorem sR_0_0 {M : MM} (h : Sh M) : rd M 0 0 = 1 := h.R 0 rfl
theorem sR_0_1 {M : MM} (h : Sh M) : rd M 0 1 = 13 := h.R 1 rfl
theorem sR_0_2 {M : MM} (h : Sh M) : rd M 0 2 = 14 := h.R 2 rfl
theorem sR_0_6 {M : MM} (h : Sh M) : rd M 0 6 = 15 := h.R 3 rfl
theorem sR_0_8 {M : MM} (h : Sh M) : rd M 0 8 = 16 := h.R 4 rfl
theorem sR_0_9 {M : MM} (h : Sh M) : rd M 0 9 = 22 := h.R 5 rfl
theorem sR_0_10 {M : MM} (h : Sh M) : rd M 0 10 = 25 := h.R 6 rfl
theorem sR_0_11 {M : MM} (h : Sh M) : rd M 0 11 = 30 := h.R 7 rfl
theorem sR_0_12 {M : MM} (h : Sh M) : rd M 0 12 = 39 := h.R 8 rfl
theorem sR_0_13 {M : MM} (h : Sh M) : rd M 0 13 = 51 := h.R 9 rfl
theorem sR_0_14 {M : MM} (h : Sh M) : rd M 0 14 = 59 := h.R 10 rfl
theorem sR_0_15 {M : MM} (h : Sh M) : rd M 0 15 = 63 := h.R 11 rfl
theorem sR_1_1 {M : MM} (h : Sh M) : rd M 1 1 = 2 := h.R 12 rfl
theorem sR_1_2 {M : MM} (h : Sh M) : rd M 1 2 = 3 := h.R 13 rfl
theorem sR_1_3 {M : MM} (h : Sh M) : rd M 1 3 = 4 := h.R 14 rfl
theorem sR_1_4 {M : MM} (h : Sh M) : rd M 1 4 = 5 := h.R 15 rfl
theorem sR_1_5 {M : MM} (h : Sh M) : rd M 1 5 = 6 := h.R 16 rfl
theorem sR_1_6 {M : MM} (h : Sh M) : rd M 1 6 = 7 := h.R 17 rfl
theorem sR_1_7 {M : MM} (h : Sh M) : rd M 1 7 = 8 := h.R 18 rfl
theorem sR_1_8 {M : MM} (h : Sh M) : rd M 1 8 = 9 := h.R 19 rfl
theorem sR_1_11 {M : MM} (h : Sh M) : rd M 1 11 = 10 := h.R 20 rfl
theorem sR_1_14 {M : MM} (h : Sh M) : rd M 1 14 = 11 := h.R 21 rfl
theorem sR_1_15 {M : MM} (h : Sh M) : rd M 1 15 = 12 := h.R 22 rfl
theorem sR_16_0 {M : MM} (h : Sh M) : rd M 16 0 = 17 := h.R 23 rfl
theorem sR_16_1 {M : MM} (h : Sh M) : rd M 16 1 = 18 := h.R 24 rfl
theorem sR_16_5 {M : MM} (h : Sh M) : rd M 16 5 = 19 := h.R 25 rfl
theorem sR_16_6 {M : MM} (h : Sh M) : rd M 16 6 = 20 := h.R 26 rfl
theorem sR_16_7 {M : MM} (h : Sh M) : rd M 16 7 = 21 := h.R 27 rfl
theorem sR_22_0 {M : MM} (h : Sh M) : rd M 22 0 = 1 := h.R 28 rfl
theorem sR_22_1 {M : MM} (h : Sh M) : rd M 22 1 = 23 := h.R 29 rfl
theorem sR_22_2 {M : MM} (h : Sh M) : rd M 22 2 = 24 := h.R 30 rfl
theorem sR_25_0 {M : MM} (h : Sh M) : rd M 25 0 = 1 := h.R 31 rfl
theorem sR_25_1 {M : MM} (h : Sh M) : rd M 25 1 = 22 := h.R 32 rfl
theorem sR_25_2 {M : MM} (h : Sh M) : rd M 25 2 = 26 := h.R 33 rfl
theorem sR_25_3 {M : MM} (h : Sh M) : rd M 25 3 = 27 := h.R 34 rfl
theorem sR_25_4 {M : MM} (h : Sh M) : rd M 25 4 = 28 := h.R 35 rfl
theorem sR_25_5 {M : MM} (h : Sh M) : rd M 25 5 = 29 := h.R 36 rfl
theorem sR_30_0 {M : MM} (h : Sh M) : rd M 30 0 = 1 := h.R 37 rfl
theorem sR_30_1 {M : MM} (h : Sh M) : rd M 30 1 = 25 := h.R 38 rfl
theorem sR_30_2 {M : MM} (h : Sh M) : rd M 30 2 = 32 := h.R 39 rfl
theorem sR_30_3 {M : MM} (h : Sh M) : rd M 30 3 = 31 := h.R 40 rfl
theorem sR_32_0 {M : MM} (h : Sh M) : rd M 32 0 = 1 := h.R 41 rfl
theorem sR_32_1 {M : MM} (h : Sh M) : rd M 32 1 = 25 := h.R 42 rfl
theorem sR_32_2 {M : MM} (h : Sh M) : rd M 32 2 = (-1) := h.R 43 rfl
theorem sR_32_3 {M : MM} (h : Sh M) : rd M 32 3 = 33 := h.R 44 rfl
theorem sR_32_4 {M : MM} (h : Sh M) : rd M 32 4 = 34 := h.R 45 rfl
theorem sR_32_5 {M : MM} (h : Sh M) : rd M 32 5 = 35 := h.R 46 rfl
theorem sR_32_6 {M : MM} (h : Sh M) : rd M 32 6 = 36 := h.R 47 rfl
theorem sR_32_7 {M : MM} (h : Sh M) : rd M 32 7 = 37 := h.R 48 rfl
theorem sR_32_8 {M : MM} (h : Sh M) : rd M 32 8 = 38 := h.R 49 rfl
theorem sR_39_0 {M : MM} (h : Sh M) : rd M 39 0 = 1 := h.R 50 rfl
theorem sR_39_1 {M : MM} (h : Sh M) : rd M 39 1 = 25 := h.R 51 rfl
theorem sR_39_2 {M : MM} (h : Sh M) : rd M 39 2 = 30 := h.R 52 rfl
theorem sR_39_3 {M : MM} (h : Sh M) : rd M 39 3 = 44 := h.R 53 rfl
theorem sR_39_5 {M : MM} (h : Sh M) : rd M 39 5 = 40 := h.R 54 rfl
theorem sR_39_9 {M : MM} (h : Sh M) : rd M 39 9 = 41 := h.R 55 rfl
theorem sR_39_10 {M : MM} (h : Sh M) : rd M 39 10 = 42 := h.R 56 rfl
theorem sR_39_11 {M : MM} (h : Sh M) : rd M 39 11 = 43 := h.R 57 rfl
theorem sR_44_0 {M : MM} (h : Sh M) : rd M 44 0 = 1 := h.R 58 rfl
theorem sR_44_1 {M : MM} (h : Sh M) : rd M 44 1 = 25 := h.R 59 rfl
theorem sR_44_2 {M : MM} (h : Sh M) : rd M 44 2 = 30 := h.R 60 rfl
theorem sR_44_3 {M : MM} (h : Sh M) : rd M 44 3 = 45 := h.R 61 rfl
theorem sR_44_4 {M : MM} (h : Sh M) : rd M 44 4 = 46 := h.R 62 rfl
theorem sR_44_5 {M : MM} (h : Sh M) : rd M 44 5 = 47 := h.R 63 rfl
theorem sR_44_6 {M : MM} (h : Sh M) : rd M 44 6 = 48 := h.R 64 rfl
theorem sR_44_7 {M : MM} (h : Sh M) : rd M 44 7 = 49 := h.R 65 rfl
theorem sR_44_8 {M : MM} (h : Sh M) : rd M 44 8 = 50 := h.R 66 rfl
theorem sR_51_0 {M : MM} (h : Sh M) : rd M 51 0 = 1 := h.R 67 rfl
theorem sR_51_1 {M : MM} (h : Sh M) : rd M 51 1 = 22 := h.R 68 rfl
theorem sR_51_2 {M : MM} (h : Sh M) : rd M 51 2 = 52 := h.R 69 rfl
theorem sR_51_3 {M : MM} (h : Sh M) : rd M 51 3 = 53 := h.R 70 rfl
theorem sR_51_4 {M : MM} (h : Sh M) : rd M 51 4 = 54 := h.R 71 rfl
theorem sR_51_5 {M : MM} (h : Sh M) : rd M 51 5 = 55 := h.R 72 rfl
theorem sR_51_6 {M : MM} (h : Sh M) : rd M 51 6 = 56 := h.R 73 rfl
theorem sR_51_7 {M : MM} (h : Sh M) : rd M 51 7 = 57 := h.R 74 rfl
theorem sR_51_8 {M : MM} (h : Sh M) : rd M 51 8 = 58 := h.R 75 rfl
theorem sR_59_0 {M : MM} (h : Sh M) : rd M 59 0 = 1 := h.R 76 rfl
theorem sR_59_1 {M : MM} (h : Sh M) : rd M 59 1 = 25 := h.R 77 rfl
theorem sR_59_2 {M : MM} (h : Sh M) : rd M 59 2 = 30 := h.R 78 rfl
theorem sR_59_4 {M : MM} (h : Sh M) : rd M 59 4 = 60 := h.R 79 rfl
theorem sR_59_5 {M : MM} (h : Sh M) : rd M 59 5 = 61 := h.R 80 rfl
theorem sR_59_6 {M : MM} (h : Sh M) : rd M 59 6 = 62 := h.R 81 rfl
theorem sR_63_0 {M : MM} (h : Sh M) : rd M 63 0 = 1 := h.R 82 rfl
theorem sR_63_1 {M : MM} (h : Sh M) : rd M 63 1 = 25 := h.R 83 rfl
theorem sR_63_2 {M : MM} (h : Sh M) : rd M 63 2 = 30 := h.R 84 rfl
theorem sR_63_4 {M : MM} (h : Sh M) : rd M 63 4 = 64 := h.R 85 rfl
theorem sR_63_5 {M : MM} (h : Sh M) : rd M 63 5 = 65 := h.R 86 rfl
theorem sR_63_6 {M : MM} (h : Sh M) : rd M 63 6 = 66 := h.R 87 rfl
theorem sR_67_2 {M : MM} (h : Sh M) : rd M 67 2 = 68 := h.R 88 rfl
theorem sR_67_3 {M : MM} (h : Sh M) : rd M 67 3 = 69 := h.R 89 rfl
theorem sR_67_4 {M : MM} (h : Sh M) : rd M 67 4 = 70 := h.R 90 rfl
theorem sR_67_5 {M : MM} (h : Sh M) : rd M 67 5 = 71 := h.R 91 rfl
theorem sR_67_7 {M : MM} (h : Sh M) : rd M 67 7 = 72 := h.R 92 rfl
theorem sR_67_16 {M : MM} (h : Sh M) : rd M 67 16 = 73 := h.R 93 rfl
theorem sR_67_18 {M : MM} (h : Sh M) : rd M 67 18 = 74 := h.R 94 rfl
theorem sR_67_19 {M : MM} (h : Sh M) : rd M 67 19 = 75 := h.R 95 rfl
theorem sR_67_21 {M : MM} (h : Sh M) : rd M 67 21 = 76 := h.R 96 rfl
theorem sR_67_22 {M : MM} (h : Sh M) : rd M 67 22 = 77 := h.R 97 rfl
theorem sR_67_25 {M : MM} (h : Sh M) : rd M 67 25 = 78 := h.R 98 rfl
theorem sR_67_27 {M : MM} (h : Sh M) : rd M 67 27 = 79 := h.R 99 rfl
theorem sR_67_28 {M : MM} (h : Sh M) : rd M 67 28 = 80 := h.R 100 rfl
theorem sR_67_32 {M : MM} (h : Sh M) : rd M 67 32 = 81 := h.R 101 rfl
theorem sR_67_33 {M : MM} (h : Sh M) : rd M 67 33 = 82 := h.R 102 rfl
theorem sR_67_34 {M : MM} (h : Sh M) : rd M 67 34 = 83 := h.R 103 rfl
theorem sR_67_35 {M : MM} (h : Sh M) : rd M 67 35 = 84 := h.R 104 rfl
theorem sR_67_36 {M : MM} (h : Sh M) : rd M 67 36 = 85 := h.R 105 rfl
theorem sR_67_37 {M : MM} (h : Sh M) : rd M 67 37 = 86 := h.R 106 rfl
theorem sR_67_38 {M : MM} (h : Sh M) : rd M 67 38 = 87 := h.R 107 rfl
theorem sR_67_40 {M : MM} (h : Sh M) : rd M 67 40 = 88 := h.R 108 rfl
theorem sR_67_42 {M : MM} (h : Sh M) : rd M 67 42 = 89 := h.R 109 rfl
theorem sR_67_45 {M : MM} (h : Sh M) : rd M 67 45 = 90 := h.R 110 rfl
theorem sR_67_46 {M : MM} (h : Sh M) : rd M 67 46 = 91 := h.R 111 rfl
theorem sR_67_49 {M : MM} (h : Sh M) : rd M 67 49 = 92 := h.R 112 rfl
theorem sR_67_53 {M : MM} (h : Sh M) : rd M 67 53 = 93 := h.R 113 rfl
theorem sOt_0 {M : MM} {t : Int} (ht : t = 32 ∨ t = 44) (h : Sh M) : okO M t 8 := by rcases ht with rfl | rfl <;> first | exact sO_32 h | exact sO_44 h
theorem sWt_0_9 {M : MM} {t : Int} (ht : t = 32 ∨ t = 44) (h : Sh M) {v : Int} : Sh (wr M t 9 v) := by rcases ht with rfl | rfl <;> first | exact sW_32_9 h | exact sW_44_9 h
theorem sWt_0_10 {M : MM} {t : Int} (ht : t = 32 ∨ t = 44) (h : Sh M) {v : Int} : Sh (wr M t 10 v) := by rcases ht with rfl | rfl <;> first | exact sW_32_10 h | exact sW_44_10 h
theorem sWt_0_11 {M : MM} {t : Int} (ht : t = 32 ∨ t = 44) (h : Sh M) {v : Int} : Sh (wr M t 11 v) := by rcases ht with rfl | rfl <;> first | exact sW_32_11 h | exact sW_44_11 h
theorem sOt_1 {M : MM} {t : Int} (ht : t = 32 ∨ t = 44) (h : Sh M) : okO M (t + 1) 21 := by rcases ht with rfl | rfl <;> first | exact sO_33 h | exact sO_45 h
theorem sAt_1 {M : MM} {t : Int} (ht : t = 32 ∨ t = 44) (h : Sh M) {i : Int} (h0 : 0 ≤ i) (h1 : i < 18504) : okA M (t + 1) 21 i := by rcases ht with rfl | rfl <;> first | exact sA_33 h h0 h1 | exact sA_45 h h0 h1
theorem sLt_1 {M : MM} {t : Int} (ht : t = 32 ∨ t = 44) (h : Sh M) : (mT M (t + 1)).2 = 18504 := by rcases ht with rfl | rfl <;> first | exact sL_33 h | exact sL_45 h
theorem sWt_1 {M : MM} {t : Int} (ht : t = 32 ∨ t = 44) (h : Sh M) {i v : Int} : Sh (wr M (t + 1) i v) := by rcases ht with rfl | rfl <;> first | exact sW_33 h | exact sW_45 h
theorem sUt_1 {M : MM} {t : Int} (ht : t = 32 ∨ t = 44) (h : Sh M) {f : Int → Int} : Sh (upA M (t + 1) f) := by rcases ht with rfl | rfl <;> first | exact sU_33 h | exact sU_45 h
theorem sOt_2 {M : MM} {t : Int} (ht : t = 32 ∨ t = 44) (h : Sh M) : okO M (t + 2) 20 := by rcases ht with rfl | rfl <;> first | exact sO_34 h | exact sO_46 h
theorem sAt_2 {M : MM} {t : Int} (ht : t = 32 ∨ t = 44) (h : Sh M) {i : Int} (h0 : 0 ≤ i) (h1 : i < 2916) : okA M (t + 2) 20 i := by rcases ht with rfl | rfl <;> first | exact sA_34 h h0 h1 | exact sA_46 h h0 h1
theorem sLt_2 {M : MM} {t : Int} (ht : t = 32 ∨ t = 44) (h : Sh M) : (mT M (t + 2)).2 = 2916 := by rcases ht with rfl | rfl <;> first | exact sL_34 h | exact sL_46 h
theorem sWt_2 {M : MM} {t : Int} (ht : t = 32 ∨ t = 44) (h : Sh M) {i v : Int} : Sh (wr M (t + 2) i v) := by rcases ht with rfl | rfl <;> first | exact sW_34 h | exact sW_46 h
theorem sUt_2 {M : MM} {t : Int} (ht : t = 32 ∨ t = 44) (h : Sh M) {f : Int → Int} : Sh (upA M (t + 2) f) := by rcases ht with rfl | rfl <;> first | exact sU_34 h | exact sU_46 h
theorem sOt_3 {M : MM} {t : Int} (ht : t = 32 ∨ t = 44) (h : Sh M) : okO M (t + 3) 21 := by rcases ht with rfl | rfl <;> first | exact sO_35 h | exact sO_47 h
theorem sAt_3 {M : MM} {t : Int} (ht : t = 32 ∨ t = 44) (h : Sh M) {i : Int} (h0 : 0 ≤ i) (h1 : i < 14) : okA M (t + 3) 21 i := by rcases ht with rfl | rfl <;> first | exact sA_35 h h0 h1 | exact sA_47 h h0 h1
theorem sLt_3 {M : MM} {t : Int} (ht : t = 32 ∨ t = 44) (h : Sh M) : (mT M (t + 3)).2 = 14 := by rcases ht with rfl | rfl <;> first | exact sL_35 h | exact sL_47 h
theorem sWt_3 {M : MM} {t : Int} (ht : t = 32 ∨ t = 44) (h : Sh M) {i v : Int} : Sh (wr M (t + 3) i v) := by rcases ht with rfl | rfl <;> first | exact sW_35 h | exact sW_47 h
theorem sUt_3 {M : MM} {t : Int} (ht : t = 32 ∨ t = 44) (h : Sh M) {f : Int → Int} : Sh (upA M (t + 3) f) := by rcases ht with rfl | rfl <;> first | exact sU_35 h | exact sU_47 h
theorem sOt_4 {M : MM} {t : Int} (ht : t = 32 ∨ t = 44) (h : Sh M) : okO M (t + 4) 21 := by rcases ht with rfl | rfl <;> first | exact sO_36 h | exact sO_48 h
theorem sAt_4 {M : MM} {t : Int} (ht : t = 32 ∨ t = 44) (h : Sh M) {i : Int} (h0 : 0 ≤ i) (h1 : i < 14) : okA M (t + 4) 21 i := by rcases ht with rfl | rfl <;> first | exact sA_36 h h0 h1 | exact sA_48 h h0 h1
theorem sLt_4 {M : MM} {t : Int} (ht : t = 32 ∨ t = 44) (h : Sh M) : (mT M (t + 4)).2 = 14 := by rcases ht with rfl | rfl <;> first | exact sL_36 h | exact sL_48 h
theorem sWt_4 {M : MM} {t : Int} (ht : t = 32 ∨ t = 44) (h : Sh M) {i v : Int} : Sh (wr M (t + 4) i v) := by rcases ht with rfl | rfl <;> first | exact sW_36 h | exact sW_48 h
theorem sUt_4 {M : MM} {t : Int} (ht : t = 32 ∨ t = 44) (h : Sh M) {f : Int → Int} : Sh (upA M (t + 4) f) := by rcases ht with rfl | rfl <;> first | exact sU_36 h | exact sU_48 h
theorem sOt_5 {M : MM} {t : Int} (ht : t = 32 ∨ t = 44) (h : Sh M) : okO M (t + 5) 21 := by rcases ht with rfl | rfl <;> first | exact sO_37 h | exact sO_49 h
theorem sAt_5 {M : MM} {t : Int} (ht : t = 32 ∨ t = 44) (h : Sh M) {i : Int} (h0 : 0 ≤ i) (h1 : i < 6) : okA M (t + 5) 21 i := by rcases ht with rfl | rfl <;> first | exact sA_37 h h0 h1 | exact sA_49 h h0 h1
theorem sLt_5 {M : MM} {t : Int} (ht : t = 32 ∨ t = 44) (h : Sh M) : (mT M (t + 5)).2 = 6 := by rcases ht with rfl | rfl <;> first | exact sL_37 h | exact sL_49 h
theorem sWt_5 {M : MM} {t : Int} (ht : t = 32 ∨ t = 44) (h : Sh M) {i v : Int} : Sh (wr M (t + 5) i v) := by rcases ht with rfl | rfl <;> first | exact sW_37 h | exact sW_49 h
theorem sUt_5 {M : MM} {t : Int} (ht : t = 32 ∨ t = 44) (h : Sh M) {f : Int → Int} : Sh (upA M (t + 5) f) := by rcases ht with rfl | rfl <;> first | exact sU_37 h | exact sU_49 h
theorem sOt_6 {M : MM} {t : Int} (ht : t = 32 ∨ t = 44) (h : Sh M) : okO M (t + 6) 21 := by rcases ht with rfl | rfl <;> first | exact sO_38 h | exact sO_50 h
theorem sAt_6 {M : MM} {t : Int} (ht : t = 32 ∨ t = 44) (h : Sh M) {i : Int} (h0 : 0 ≤ i) (h1 : i < 6) : okA M (t + 6) 21 i := by rcases ht with rfl | rfl <;> first | exact sA_38 h h0 h1 | exact sA_50 h h0 h1
theorem sLt_6 {M : MM} {t : Int} (ht : t = 32 ∨ t = 44) (h : Sh M) : (mT M (t + 6)).2 = 6 := by rcases ht with rfl | rfl <;> first | exact sL_38 h | exact sL_50 h
theorem sWt_6 {M : MM} {t : Int} (ht : t = 32 ∨ t = 44) (h : Sh M) {i v : Int} : Sh (wr M (t + 6) i v) := by rcases ht with rfl | rfl <;> first | exact sW_38 h | exact sW_50 h
theorem sUt_6 {M : MM} {t : Int} (ht : t = 32 ∨ t = 44) (h : Sh M) {f : Int → Int} : Sh (upA M (t + 6) f) := by rcases ht with rfl | rfl <;> first | exact sU_38 h | exact sU_50 h
theorem sRt_0 {M : MM} {t : Int} (ht : t = 32 ∨ t = 44) (h : Sh M) : rd M t 0 = 1 := by rcases ht with rfl | rfl <;> first | exact sR_32_0 h | exact sR_44_0 h
theorem sRt_1 {M : MM} {t : Int} (ht : t = 32 ∨ t = 44) (h : Sh M) : rd M t 1 = 25 := by rcases ht with rfl | rfl <;> first | exact sR_32_1 h | exact sR_44_1 h
theorem sRt_2 {M : MM} {t : Int} (ht : t = 32 ∨ t = 44) (h : Sh M) : rd M t 2 = tG t := by rcases ht with rfl | rfl <;> first | exact sR_32_2 h | exact sR_44_2 h
theorem sRt_3 {M : MM} {t : Int} (ht : t = 32 ∨ t = 44) (h : Sh M) : rd M t 3 = t + 1 := by rcases ht with rfl | rfl <;> first | exact sR_32_3 h | exact sR_44_3 h
theorem sRt_4 {M : MM} {t : Int} (ht : t = 32 ∨ t = 44) (h : Sh M) : rd M t 4 = t + 2 := by rcases ht with rfl | rfl <;> first | exact sR_32_4 h | exact sR_44_4 h
theorem sRt_5 {M : MM} {t : Int} (ht : t = 32 ∨ t = 44) (h : Sh M) : rd M t 5 = t + 3 := by rcases ht with rfl | rfl <;> first | exact sR_32_5 h | exact sR_44_5 h
theorem sRt_6 {M : MM} {t : Int} (ht : t = 32 ∨ t = 44) (h : Sh M) : rd M t 6 = t + 4 := by rcases ht with rfl | rfl <;> first | exact sR_32_6 h | exact sR_44_6 h
theorem sRt_7 {M : MM} {t : Int} (ht : t = 32 ∨ t = 44) (h : Sh M) : rd M t 7 = t + 5 := by rcases ht with rfl | rfl <;> first | exact sR_32_7 h | exact sR_44_7 h
theorem sRt_8 {M : MM} {t : Int} (ht : t = 32 ∨ t = 44) (h : Sh M) : rd M t 8 = t + 6 := by rcases ht with rfl | rfl <;> first | exact sR_32_8 h | exact sR_44_8 h
theorem sOw_0 {M : MM} {w : Int} (hw : w = 59 ∨ w = 63) (h : Sh M) : okO M w 9 := by rcases hw with rfl | rfl <;> first | exact sO_59 h | exact sO_63 h
theorem sWw_0_3 {M : MM} {w : Int} (hw : w = 59 ∨ w = 63) (h : Sh M) {v : Int} : Sh (wr M w 3 v) := by rcases hw with rfl | rfl <;> first | exact sW_59_3 h | exact sW_63_3 h
theorem sWw_0_7 {M : MM} {w : Int} (hw : w = 59 ∨ w = 63) (h : Sh M) {v : Int} : Sh (wr M w 7 v) := by rcases hw with rfl | rfl <;> first | exact sW_59_7 h | exact sW_63_7 h
theorem sWw_0_8 {M : MM} {w : Int} (hw : w = 59 ∨ w = 63) (h : Sh M) {v : Int} : Sh (wr M w 8 v) := by rcases hw with rfl | rfl <;> first | exact sW_59_8 h | exact sW_63_8 h
theorem sWw_0_9 {M : MM} {w : Int} (hw : w = 59 ∨ w = 63) (h : Sh M) {v : Int} : Sh (wr M w 9 v) := by rcases hw with rfl | rfl <;> first | exact sW_59_9 h | exact sW_63_9 h
theorem sWw_0_10 {M : MM} {w : Int} (hw : w = 59 ∨ w = 63) (h : Sh M) {v : Int} : Sh (wr M w 10 v) := by rcases hw with rfl | rfl <;> first | exact sW_59_10 h | exact sW_63_10 h
theorem sWw_0_11 {M : MM} {w : Int} (hw : w = 59 ∨ w = 63) (h : Sh M) {v : Int} : Sh (wr M w 11 v) := by rcases hw with rfl | rfl <;> first | exact sW_59_11 h | exact sW_63_11 h
theorem sWw_0_12 {M : MM} {w : Int} (hw : w = 59 ∨ w = 63) (h : Sh M) {v : Int} : Sh (wr M w 12 v) := by rcases hw with rfl | rfl <;> first | exact sW_59_12 h | exact sW_63_12 h
theorem sOw_1 {M : MM} {w : Int} (hw : w = 59 ∨ w = 63) (h : Sh M) : okO M (w + 1) 20 := by rcases hw with rfl | rfl <;> first | exact sO_60 h | exact sO_64 h
theorem sAw_1 {M : MM} {w : Int} (hw : w = 59 ∨ w = 63) (h : Sh M) {i : Int} (h0 : 0 ≤ i) (h1 : i < 5) : okA M (w + 1) 20 i := by rcases hw with rfl | rfl <;> first | exact sA_60 h h0 h1 | exact sA_64 h h0 h1
theorem sLw_1 {M : MM} {w : Int} (hw : w = 59 ∨ w = 63) (h : Sh M) : (mT M (w + 1)).2 = 5 := by rcases hw with rfl | rfl <;> first | exact sL_60 h | exact sL_64 h
theorem sWw_1 {M : MM} {w : Int} (hw : w = 59 ∨ w = 63) (h : Sh M) {i v : Int} : Sh (wr M (w + 1) i v) := by rcases hw with rfl | rfl <;> first | exact sW_60 h | exact sW_64 h
theorem sUw_1 {M : MM} {w : Int} (hw : w = 59 ∨ w = 63) (h : Sh M) {f : Int → Int} : Sh (upA M (w + 1) f) := by rcases hw with rfl | rfl <;> first | exact sU_60 h | exact sU_64 h
theorem sOw_2 {M : MM} {w : Int} (hw : w = 59 ∨ w = 63) (h : Sh M) : okO M (w + 2) 20 := by rcases hw with rfl | rfl <;> first | exact sO_61 h | exact sO_65 h
theorem sAw_2 {M : MM} {w : Int} (hw : w = 59 ∨ w = 63) (h : Sh M) {i : Int} (h0 : 0 ≤ i) (h1 : i < 5) : okA M (w + 2) 20 i := by rcases hw with rfl | rfl <;> first | exact sA_61 h h0 h1 | exact sA_65 h h0 h1
theorem sLw_2 {M : MM} {w : Int} (hw : w = 59 ∨ w = 63) (h : Sh M) : (mT M (w + 2)).2 = 5 := by rcases hw with rfl | rfl <;> first | exact sL_61 h | exact sL_65 h
theorem sWw_2 {M : MM} {w : Int} (hw : w = 59 ∨ w = 63) (h : Sh M) {i v : Int} : Sh (wr M (w + 2) i v) := by rcases hw with rfl | rfl <;> first | exact sW_61 h | exact sW_65 h
theorem sUw_2 {M : MM} {w : Int} (hw : w = 59 ∨ w = 63) (h : Sh M) {f : Int → Int} : Sh (upA M (w + 2) f) := by rcases hw with rfl | rfl <;> first | exact sU_61 h | exact sU_65 h
theorem sOw_3 {M : MM} {w : Int} (hw : w = 59 ∨ w = 63) (h : Sh M) : okO M (w + 3) 20 := by rcases hw with rfl | rfl <;> first | exact sO_62 h | exact sO_66 h
theorem sAw_3 {M : MM} {w : Int} (hw : w = 59 ∨ w = 63) (h : Sh M) {i : Int} (h0 : 0 ≤ i) (h1 : i < 5) : okA M (w + 3) 20 i := by rcases hw with rfl | rfl <;> first | exact sA_62 h h0 h1 | exact sA_66 h h0 h1
theorem sLw_3 {M : MM} {w : Int} (hw : w = 59 ∨ w = 63) (h : Sh M) : (mT M (w + 3)).2 = 5 := by rcases hw with rfl | rfl <;> first | exact sL_62 h | exact sL_66 h
theorem sWw_3 {M : MM} {w : Int} (hw : w = 59 ∨ w = 63) (h : Sh M) {i v : Int} : Sh (wr M (w + 3) i v) := by rcases hw with rfl | rfl <;> first | exact sW_62 h | exact sW_66 h
theorem sUw_3 {M : MM} {w : Int} (hw : w = 59 ∨ w = 63) (h : Sh M) {f : Int → Int} : Sh (upA M (w + 3) f) := by rcases hw with rfl | rfl <;> first | exact sU_62 h | exact sU_66 h
theorem sRw_0 {M : MM} {w : Int} (hw : w = 59 ∨ w = 63) (h : Sh M) : rd M w 0 = 1 := by rcases hw with rfl | rfl <;> first | exact sR_59_0 h | exact sR_63_0 h
theorem sRw_1 {M : MM} {w : Int} (hw : w = 59 ∨ w = 63) (h : Sh M) : rd M w 1 = 25 := by rcases hw with rfl | rfl <;> first | exact sR_59_1 h | exact sR_63_1 h
theorem sRw_2 {M : MM} {w : Int} (hw : w = 59 ∨ w = 63) (h : Sh M) : rd M w 2 = 30 := by rcases hw with rfl | rfl <;> first | exact sR_59_2 h | exact sR_63_2 h
theorem sRw_4 {M : MM} {w : Int} (hw : w = 59 ∨ w = 63) (h : Sh M) : rd M w 4 = w + 1 := by rcases hw with rfl | rfl <;> first | exact sR_59_4 h | exact sR_63_4 h
theorem sRw_5 {M : MM} {w : Int} (hw : w = 59 ∨ w = 63) (h : Sh M) : rd M w 5 = w + 2 := by rcases hw with rfl | rfl <;> first | exact sR_59_5 h | exact sR_63_5 h
theorem sRw_6 {M : MM} {w : Int} (hw : w = 59 ∨ w = 63) (h : Sh M) : rd M w 6 = w + 3 := by rcases hw with rfl | rfl <;> first | exact sR_59_6 h | exact sR_63_6 h
