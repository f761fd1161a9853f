/-! ===== the steps' own tables ===== -/
def t8W : List Int := [0, 999, 999, 999, 999, 999, 7, 999, 999, 999, 999, 999, 14, 999, 999, 999, 19, 20, 999, 999, 999, 999, 999, 27, 999, 999, 31, 999, 33, 999, 999, 999, 38, 39, 999, 999, 43, 44, 45, 999, 999, 999, 999, 999, 52, 999, 55, 999, 999, 58, 999, 999, 62, 999, 64, 999, 67, 68, 999, 70, 999, 999, 999, 75, 76, 999, 79, 999, 81, 82, 999, 999, 86, 87, 88, 999, 91, 92, 93, 94, 999, 999, 999, 999, 999, 101, 103, 999, 999, 999, 107, 999, 110, 999, 999, 113, 115, 116, 999, 999, 119, 999, 999, 123, 999, 125, 127, 999, 129, 999, 131, 999, 134, 135, 999, 137, 139, 140, 141, 999, 143, 999, 999, 999, 148, 149, 151, 999, 999, 154, 155, 999, 158, 999, 160, 161, 163, 164, 999, 166, 167, 999, 999, 171, 172, 173, 175, 999, 177, 178, 179, 999, 182, 183, 184, 185, 187, 188, 189, 190, 191]
def c8s : List Int := [0, 5, 5, 5, 5, 5, 5, 5, 9, 9, 9, 9, 9, 9, 9, 13, 13, 13, 13, 13, 16, 19, 19, 19, 19, 19, 19, 19, 23, 23, 23, 23, 26, 26, 29, 29, 29, 29, 29, 32, 35, 35, 35, 35, 37, 39, 41, 41, 41, 41, 41, 41, 41, 45, 45, 45, 48, 48, 48, 51, 51, 51, 51, 54, 54, 57, 57, 57, 59, 61, 61, 63, 63, 63, 63, 63, 66, 69, 69, 69, 71, 71, 73, 75, 75, 75, 75, 77, 79, 81, 81, 81, 82, 83, 84, 85, 85, 85, 85, 85, 85, 85, 89, 89, 92, 92, 92, 92, 95, 95, 95, 98, 98, 98, 101, 101, 103, 105, 105, 105, 107, 107, 107, 107, 110, 110, 113, 113, 115, 115, 117, 117, 119, 119, 119, 121, 123, 123, 125, 125, 126, 127, 128, 128, 129, 129, 129, 129, 129, 132, 135, 135, 137, 137, 137, 139, 141, 141, 141, 143, 143, 145, 147, 147, 148, 149, 149, 150, 151, 151, 151, 151, 153, 155, 157, 157, 158, 158, 159, 160, 161, 161, 161, 162, 163, 164, 165, 165, 165, 165, 165, 165, 165]
def c8l : List Int := [0, 504, 504, 504, 504, 504, 504, 504, 900, 900, 900, 900, 900, 900, 900, 1296, 1296, 1296, 1296, 1296, 1620, 1944, 1944, 1944, 1944, 1944, 1944, 1944, 2340, 2340, 2340, 2340, 2664, 2664, 2988, 2988, 2988, 2988, 2988, 3312, 3636, 3636, 3636, 3636, 3852, 4068, 4284, 4284, 4284, 4284, 4284, 4284, 4284, 4680, 4680, 4680, 5004, 5004, 5004, 5328, 5328, 5328, 5328, 5652, 5652, 5976, 5976, 5976, 6192, 6408, 6408, 6624, 6624, 6624, 6624, 6624, 6948, 7272, 7272, 7272, 7488, 7488, 7704, 7920, 7920, 7920, 7920, 8136, 8352, 8568, 8568, 8568, 8712, 8856, 9000, 9144, 9144, 9144, 9144, 9144, 9144, 9144, 9540, 9540, 9864, 9864, 9864, 9864, 10188, 10188, 10188, 10512, 10512, 10512, 10836, 10836, 11052, 11268, 11268, 11268, 11484, 11484, 11484, 11484, 11808, 11808, 12132, 12132, 12348, 12348, 12564, 12564, 12780, 12780, 12780, 12996, 13212, 13212, 13428, 13428, 13572, 13716, 13860, 13860, 14004, 14004, 14004, 14004, 14004, 14328, 14652, 14652, 14868, 14868, 14868, 15084, 15300, 15300, 15300, 15516, 15516, 15732, 15948, 15948, 16092, 16236, 16236, 16380, 16524, 16524, 16524, 16524, 16740, 16956, 17172, 17172, 17316, 17316, 17460, 17604, 17748, 17748, 17748, 17892, 18036, 18180, 18324, 18324, 18360, 18396, 18432, 18468, 18504]
def c8q : List Int := [0, 36, 36, 36, 36, 36, 36, 36, 72, 72, 72, 72, 72, 72, 72, 108, 108, 108, 108, 108, 144, 180, 180, 180, 180, 180, 180, 180, 216, 216, 216, 216, 252, 252, 288, 288, 288, 288, 288, 324, 360, 360, 360, 360, 396, 432, 468, 468, 468, 468, 468, 468, 468, 504, 504, 504, 540, 540, 540, 576, 576, 576, 576, 612, 612, 648, 648, 648, 684, 720, 720, 756, 756, 756, 756, 756, 792, 828, 828, 828, 864, 864, 900, 936, 936, 936, 936, 972, 1008, 1044, 1044, 1044, 1080, 1116, 1152, 1188, 1188, 1188, 1188, 1188, 1188, 1188, 1224, 1224, 1260, 1260, 1260, 1260, 1296, 1296, 1296, 1332, 1332, 1332, 1368, 1368, 1404, 1440, 1440, 1440, 1476, 1476, 1476, 1476, 1512, 1512, 1548, 1548, 1584, 1584, 1620, 1620, 1656, 1656, 1656, 1692, 1728, 1728, 1764, 1764, 1800, 1836, 1872, 1872, 1908, 1908, 1908, 1908, 1908, 1944, 1980, 1980, 2016, 2016, 2016, 2052, 2088, 2088, 2088, 2124, 2124, 2160, 2196, 2196, 2232, 2268, 2268, 2304, 2340, 2340, 2340, 2340, 2376, 2412, 2448, 2448, 2484, 2484, 2520, 2556, 2592, 2592, 2592, 2628, 2664, 2700, 2736, 2736, 2772, 2808, 2844, 2880, 2916]
abbrev b8 (p l : Int) : Int := if ((l ≠ (-1)) ∧ ((iAnd (iShr p l) 1) = 1)) ∨ ((l = (-1)) ∧ (p = 0)) then 1 else 0
abbrev F8 (t p l : Int) : Prop := (b8 p l = 0 ∧ gt c8s (t + 1) = gt c8s t ∧ gt c8l (t + 1) = gt c8l t ∧ gt c8q (t + 1) = gt c8q t) ∨ (b8 p l = 1 ∧ (gt t8W (((p * 5) + l) + 1) = t ∧ gt fsL (((p * 5) + l) + 1) = gt c8s t ∧ gt flL (((p * 5) + l) + 1) = gt c8l t ∧ gt fqL (((p * 5) + l) + 1) = gt c8q t) ∧ gt c8s (t + 1) = gt c8s t + (5 - pop p) ∧ gt c8l (t + 1) = gt c8l t + (limF (Int.toNat (pop p))) * 36 ∧ gt c8q (t + 1) = gt c8q t + 36)
theorem F8_all {t : Int} (h0 : 0 ≤ t) (h1 : t < 192) : F8 t (t / 6) (t % 6 - 1) := finI (P := fun t => F8 t (t / 6) (t % 6 - 1)) 192 (by decide +kernel) h0 h1
theorem F8_at {p l : Int} (p0 : 0 ≤ p) (p1 : p < 32) (l0 : -1 ≤ l) (l1 : l < 5) : F8 (6 * p + l + 1) p l := by
  have h := F8_all (t := 6 * p + l + 1) (by omega) (by omega)
  rwa [show (6 * p + l + 1) / 6 = p by omega, show (6 * p + l + 1) % 6 - 1 = l by omega] at h
abbrev W8 (i : Int) : Prop := (gt t8W i = 999 ∧ gt fsL i = 0 ∧ gt flL i = 0 ∧ gt fqL i = 0) ∨ (0 ≤ gt t8W i ∧ gt t8W i < 192 ∧ b8 (gt t8W i / 6) (gt t8W i % 6 - 1) = 1 ∧ 5 * (gt t8W i / 6) + (gt t8W i % 6 - 1) + 1 = i)
theorem W8_all {i : Int} (h0 : 0 ≤ i) (h1 : i < 161) : W8 i := finI (P := W8) 161 (by decide +kernel) h0 h1
theorem W8_at {i p l : Int} (h0 : 0 ≤ i) (h1 : i < 161) (p0 : 0 ≤ p) (p1 : p < 32) (l0 : -1 ≤ l) (l1 : l < 5) (e : gt t8W i = 6 * p + l + 1) : b8 p l = 1 ∧ i = p * 5 + l + 1 := by
  rcases W8_all h0 h1 with w | w
  · omega
  · rw [e, show (6 * p + l + 1) / 6 = p by omega, show (6 * p + l + 1) % 6 - 1 = l by omega] at w
    exact ⟨w.2.2.1, by omega⟩
def TB3 (f g k : Int → Int) : Prop := ∀ i : Int, 0 ≤ i → i < 161 → f i = gt fsL i ∧ g i = gt flL i ∧ k i = gt fqL i
def I8 (t : Int) (f g k : Int → Int) : Prop := ∀ i : Int, 0 ≤ i → i < 161 → f i = (if gt t8W i < t then gt fsL i else 0) ∧ g i = (if gt t8W i < t then gt flL i else 0) ∧ k i = (if gt t8W i < t then gt fqL i else 0)
theorem I8.end {f g k : Int → Int} (h : I8 192 f g k) : TB3 f g k := fun i h0 h1 => by
  obtain ⟨a, b, c⟩ := h i h0 h1
  rcases W8_all h0 h1 with w | w
  · rw [if_neg (by omega)] at a b c
    exact ⟨by rw [a, w.2.1], by rw [b, w.2.2.1], by rw [c, w.2.2.2]⟩
  · rw [if_pos (by omega)] at a b c
    exact ⟨a, b, c⟩
theorem I8.skip {f g k : Int → Int} {p l : Int} (p0 : 0 ≤ p) (p1 : p < 32) (l0 : -1 ≤ l) (l1 : l < 5) (hb : b8 p l = 0) (h : I8 (6 * p + l + 1) f g k) : I8 (6 * p + (l + 1) + 1) f g k := fun i h0 h1 => by
  have hne : gt t8W i ≠ 6 * p + l + 1 := fun e => by have := (W8_at h0 h1 p0 p1 l0 l1 e).1; omega
  obtain ⟨a, b, c⟩ := h i h0 h1
  by_cases w : gt t8W i < 6 * p + l + 1
  · rw [if_pos w] at a b c
    rw [if_pos (by omega), if_pos (by omega), if_pos (by omega)]
    exact ⟨a, b, c⟩
  · rw [if_neg w] at a b c
    rw [if_neg (by omega), if_neg (by omega), if_neg (by omega)]
    exact ⟨a, b, c⟩
theorem I8.put {f g k : Int → Int} {p l : Int} (p0 : 0 ≤ p) (p1 : p < 32) (l0 : -1 ≤ l) (l1 : l < 5) (hF : gt t8W (p * 5 + l + 1) = 6 * p + l + 1 ∧ gt fsL (p * 5 + l + 1) = gt c8s (6 * p + l + 1) ∧ gt flL (p * 5 + l + 1) = gt c8l (6 * p + l + 1) ∧ gt fqL (p * 5 + l + 1) = gt c8q (6 * p + l + 1)) (h : I8 (6 * p + l + 1) f g k) : I8 (6 * p + (l + 1) + 1) (upF f (p * 5 + l + 1) (gt c8s (6 * p + l + 1))) (upF g (p * 5 + l + 1) (gt c8l (6 * p + l + 1))) (upF k (p * 5 + l + 1) (gt c8q (6 * p + l + 1))) := fun i h0 h1 => by
  unfold upF
  by_cases e : i = p * 5 + l + 1
  · rw [if_pos e, if_pos e, if_pos e, e, hF.1, if_pos (by omega), if_pos (by omega), if_pos (by omega)]
    exact ⟨hF.2.1.symm, hF.2.2.1.symm, hF.2.2.2.symm⟩
  · rw [if_neg e, if_neg e, if_neg e]
    have hne : gt t8W i ≠ 6 * p + l + 1 := fun y => e (W8_at h0 h1 p0 p1 l0 l1 y).2
    obtain ⟨a, b, c⟩ := h i h0 h1
    by_cases w : gt t8W i < 6 * p + l + 1
    · rw [if_pos w] at a b c
      rw [if_pos (by omega), if_pos (by omega), if_pos (by omega)]
      exact ⟨a, b, c⟩
    · rw [if_neg w] at a b c
      rw [if_neg (by omega), if_neg (by omega), if_neg (by omega)]
      exact ⟨a, b, c⟩
theorem I8_0 : I8 0 (fun _ => 0) (fun _ => 0) (fun _ => 0) := fun i h0 h1 => by
  have : ¬ gt t8W i < 0 := by
    rcases W8_all h0 h1 with w | w
    · omega
    · omega
  rw [if_neg this, if_neg this, if_neg this]
  exact ⟨rfl, rfl, rfl⟩
def cl_X8 (n x1 x2 : Int) (f g k : Int → Int) : List Cel := [(7, ((kN 7 : Nat) : Int), upF (upF (upF (upF (upF (upF (upF (dvF 7) 2 (n + 1)) 3 (n + 2)) 4 (n + 3)) 5 (n + 4)) 6 0) 0 x1) 1 x2), (20, 161, f), (20, 161, g), (20, 161, k), (20, 5940, (fun _ => 0))]
theorem L8 {G : GG} {d : Nat} {n x1 x2 : Int} {M0 : MM} {Q : PV → MM → Prop} (hd : 2 ≤ d) (h : ∀ M' f g k, TB3 f g k → MEM n M0 (cl_X8 n x1 x2 f g k) M' → Q vU M') : ∀ (m : Nat) (p l : Int) (M : MM) (f g k : Int → Int), 0 ≤ p → p < 32 → -1 ≤ l → l ≤ 5 → (m : Int) = 7 * (31 - p) + (5 - l) → I8 (6 * p + l + 1) f g k → MEM n M0 (cl_X8 n x1 x2 f g k) M →
    X G Y_X8_init d 0 0 83 [vA n, vA x1, vA x2, vI (gt c8s (6 * p + l + 1)), vI (gt c8l (6 * p + l + 1)), vI (gt c8q (6 * p + l + 1)), vI p, vI (pop p), vI l, vU] [] M Q := by
  intro m
  induction m with
  | zero =>
    intro p l M f g k p0 p1 l0 l1 hm hI hM
    have ep : p = 31 := by omega
    have el : l = 5 := by omega
    subst ep el
    refine B_X8_init_83 hd ⟨by unfold inR; decide, fun _ => ?_, fun w => absurd w (by decide)⟩
    exact B_X8_init_66 hd ⟨by unfold inR; decide, fun _ => h M f g k hI.end hM, fun w => absurd w (by decide)⟩
  | succ m ih =>
    intro p l M f g k p0 p1 l0 l1 hm hI hM
    refine B_X8_init_83 hd ⟨by unfold inR; omega, fun w => ?_, fun w => ⟨by unfold inR; omega, fun v20 e20 => ?_⟩⟩
    · have el : l = 5 := by omega
      subst el
      refine B_X8_init_66 hd ⟨by unfold inR; omega, fun w2 => absurd w2 (by omega), fun w2 => ⟨by omega, w2, fun v4 e4 => ?_⟩⟩
      rw [e4, show 6 * p + 5 + 1 = 6 * (p + 1) + (-1) + 1 by omega]
      exact ih (p + 1) (-1) M f g k (by omega) w2 (by decide) (by decide) (by omega) (by rw [show 6 * (p + 1) + (-1) + 1 = 6 * p + 5 + 1 by omega]; exact hI) hM
    · have n0 := hM.1.1
      have hpp := pop_le p0 p1
      rcases F8_at p0 p1 l0 w with ⟨hb, f1, f2, f3⟩ | ⟨hb, hF, f1, f2, f3⟩
      · have ev : v20 = 0 := e20.trans hb
        refine ⟨by rw [ev]; unfold inR; decide, fun _ => ?_, fun z => absurd ev z⟩
        rw [← f1, ← f2, ← f3, show 6 * p + l + 1 + 1 = 6 * p + (l + 1) + 1 by omega]
        exact ih p (l + 1) M f g k p0 p1 (by omega) (by omega) (by omega) (I8.skip p0 p1 l0 w hb hI) hM
      · have ev : v20 = 1 := e20.trans hb
        refine ⟨by rw [ev]; unfold inR; decide, fun z => absurd z (by omega), fun _ => ?_⟩
        refine ⟨hM.o 0 (Int.add_zero n).symm (Nat.le_of_ble_eq_true rfl) rfl, ?_⟩
        rw [show rd M n 2 = n + 1 from (hM.r 0 (Int.add_zero n).symm (Nat.le_of_ble_eq_true rfl)).trans rfl]
        refine ⟨hM.a 1 rfl (Nat.le_of_ble_eq_true rfl) rfl (by omega) (show _ < (161 : Int) by omega), fun M24 e24 => ?_⟩
        have m24 : MEM n M0 (cl_X8 n x1 x2 (upF f (p * 5 + l + 1) (gt c8s (6 * p + l + 1))) g k) M24 := hM.wr 1 e24 rfl rfl
        refine ⟨m24.o 0 (Int.add_zero n).symm (Nat.le_of_ble_eq_true rfl) rfl, ?_⟩
        rw [show rd M24 n 3 = n + 2 from (m24.r 0 (Int.add_zero n).symm (Nat.le_of_ble_eq_true rfl)).trans rfl]
        refine ⟨m24.a 2 rfl (Nat.le_of_ble_eq_true rfl) rfl (by omega) (show _ < (161 : Int) by omega), fun M27 e27 => ?_⟩
        have m27 : MEM n M0 (cl_X8 n x1 x2 (upF f (p * 5 + l + 1) (gt c8s (6 * p + l + 1))) (upF g (p * 5 + l + 1) (gt c8l (6 * p + l + 1))) k) M27 := m24.wr 2 e27 rfl rfl
        refine ⟨m27.o 0 (Int.add_zero n).symm (Nat.le_of_ble_eq_true rfl) rfl, ?_⟩
        rw [show rd M27 n 4 = n + 3 from (m27.r 0 (Int.add_zero n).symm (Nat.le_of_ble_eq_true rfl)).trans rfl]
        refine ⟨m27.a 3 rfl (Nat.le_of_ble_eq_true rfl) rfl (by omega) (show _ < (161 : Int) by omega), fun M30 e30 => ?_⟩
        have m30 : MEM n M0 (cl_X8 n x1 x2 (upF f (p * 5 + l + 1) (gt c8s (6 * p + l + 1))) (upF g (p * 5 + l + 1) (gt c8l (6 * p + l + 1))) (upF k (p * 5 + l + 1) (gt c8q (6 * p + l + 1)))) M30 := m27.wr 3 e30 rfl rfl
        refine fun v31 e31 => ⟨hpp.1, by omega, fun v34 e34 => ?_⟩
        rw [e31, e34]
        rw [← f1, ← f2, ← f3, show 6 * p + l + 1 + 1 = 6 * p + (l + 1) + 1 by omega]
        exact ih p (l + 1) M30 _ _ _ p0 p1 (by omega) (by omega) (by omega) (I8.put p0 p1 l0 w hF hI) m30
theorem L8_66 {G : GG} {d : Nat} {n x1 x2 : Int} {M0 M : MM} {Q : PV → MM → Prop} (hd : 2 ≤ d) (h : ∀ M' f g k, TB3 f g k → MEM n M0 (cl_X8 n x1 x2 f g k) M' → Q vU M') (hM : MEM n M0 (cl_X8 n x1 x2 (fun _ => 0) (fun _ => 0) (fun _ => 0)) M) : X G Y_X8_init d 0 0 66 [vA n, vA x1, vA x2, vI 0, vI 0, vI 0, vI 0, vU, vU, vU] [] M Q := by
  refine B_X8_init_66 hd ⟨by unfold inR; decide, fun w2 => absurd w2 (by decide), fun w2 => ⟨by decide, w2, fun v4 e4 => ?_⟩⟩
  rw [e4]
  exact L8 hd h 223 0 (-1) M _ _ _ (by decide) (by decide) (by decide) (by decide) (by decide) I8_0 hM
theorem T_X8_init {G : GG} {d : Nat} {n x1 x2 : Int} {M0 M : MM} {Q : PV → MM → Prop} (hd : 2 ≤ d) (m0 : MEM n M0 [(7, ((kN 7 : Nat) : Int), dvF 7)] M) (h : ∀ M' f g k, TB3 f g k → MEM n M0 (cl_X8 n x1 x2 f g k) M' → Q vU M') : C G Y_X8_init d 4 6423 [vA n, vA x1, vA x2] M Q := by
  refine C_X8_init (B_X8_init_0 (by omega) ?_)
  have n0 := m0.1.1
  have hd1 : 1 ≤ d - 1 := by omega
  have q_M : mN M = n + 1 := m0.1.2
  rw [q_M]
  refine ⟨n0, ?_⟩
  intro M2 eM2
  have mM2 : MEM n M0 ([(7, ((kN 7 : Nat) : Int), dvF 7), (20, 161, (fun _ => 0))]) M2 := m0.al eM2 rfl
  have q_M2 : mN M2 = n + 2 := mM2.1.2
  refine ⟨mM2.o 0 (Int.add_zero n).symm (Nat.le_of_ble_eq_true rfl) rfl, ?_⟩
  intro M4 eM4
  have mM4 : MEM n M0 ([(7, ((kN 7 : Nat) : Int), upF (dvF 7) 2 (n + 1)), (20, 161, (fun _ => 0))]) M4 := mM2.wr 0 eM4 (Int.add_zero n).symm rfl
  have q_M4 : mN M4 = n + 2 := mM4.1.2
  rw [q_M4]
  intro M5 eM5
  have mM5 : MEM n M0 ([(7, ((kN 7 : Nat) : Int), upF (dvF 7) 2 (n + 1)), (20, 161, (fun _ => 0)), (20, 161, (fun _ => 0))]) M5 := mM4.al eM5 rfl
  have q_M5 : mN M5 = n + 3 := mM5.1.2
  refine ⟨mM5.o 0 (Int.add_zero n).symm (Nat.le_of_ble_eq_true rfl) rfl, ?_⟩
  intro M7 eM7
  have mM7 : MEM n M0 ([(7, ((kN 7 : Nat) : Int), upF (upF (dvF 7) 2 (n + 1)) 3 (n + 2)), (20, 161, (fun _ => 0)), (20, 161, (fun _ => 0))]) M7 := mM5.wr 0 eM7 (Int.add_zero n).symm rfl
  have q_M7 : mN M7 = n + 3 := mM7.1.2
  rw [q_M7]
  intro M8 eM8
  have mM8 : MEM n M0 ([(7, ((kN 7 : Nat) : Int), upF (upF (dvF 7) 2 (n + 1)) 3 (n + 2)), (20, 161, (fun _ => 0)), (20, 161, (fun _ => 0)), (20, 161, (fun _ => 0))]) M8 := mM7.al eM8 rfl
  have q_M8 : mN M8 = n + 4 := mM8.1.2
  refine ⟨mM8.o 0 (Int.add_zero n).symm (Nat.le_of_ble_eq_true rfl) rfl, ?_⟩
  intro M10 eM10
  have mM10 : MEM n M0 ([(7, ((kN 7 : Nat) : Int), upF (upF (upF (dvF 7) 2 (n + 1)) 3 (n + 2)) 4 (n + 3)), (20, 161, (fun _ => 0)), (20, 161, (fun _ => 0)), (20, 161, (fun _ => 0))]) M10 := mM8.wr 0 eM10 (Int.add_zero n).symm rfl
  have q_M10 : mN M10 = n + 4 := mM10.1.2
  rw [q_M10]
  intro M11 eM11
  have mM11 : MEM n M0 ([(7, ((kN 7 : Nat) : Int), upF (upF (upF (dvF 7) 2 (n + 1)) 3 (n + 2)) 4 (n + 3)), (20, 161, (fun _ => 0)), (20, 161, (fun _ => 0)), (20, 161, (fun _ => 0)), (20, 5940, (fun _ => 0))]) M11 := mM10.al eM11 rfl
  have q_M11 : mN M11 = n + 5 := mM11.1.2
  refine ⟨mM11.o 0 (Int.add_zero n).symm (Nat.le_of_ble_eq_true rfl) rfl, ?_⟩
  intro M13 eM13
  have mM13 : MEM n M0 ([(7, ((kN 7 : Nat) : Int), upF (upF (upF (upF (dvF 7) 2 (n + 1)) 3 (n + 2)) 4 (n + 3)) 5 (n + 4)), (20, 161, (fun _ => 0)), (20, 161, (fun _ => 0)), (20, 161, (fun _ => 0)), (20, 5940, (fun _ => 0))]) M13 := mM11.wr 0 eM13 (Int.add_zero n).symm rfl
  have q_M13 : mN M13 = n + 5 := mM13.1.2
  refine ⟨mM13.o 0 (Int.add_zero n).symm (Nat.le_of_ble_eq_true rfl) rfl, ?_⟩
  intro M15 eM15
  have mM15 : MEM n M0 ([(7, ((kN 7 : Nat) : Int), upF (upF (upF (upF (upF (dvF 7) 2 (n + 1)) 3 (n + 2)) 4 (n + 3)) 5 (n + 4)) 6 0), (20, 161, (fun _ => 0)), (20, 161, (fun _ => 0)), (20, 161, (fun _ => 0)), (20, 5940, (fun _ => 0))]) M15 := mM13.wr 0 eM15 (Int.add_zero n).symm rfl
  have q_M15 : mN M15 = n + 5 := mM15.1.2
  refine ⟨mM15.o 0 (Int.add_zero n).symm (Nat.le_of_ble_eq_true rfl) rfl, ?_⟩
  intro M17 eM17
  have mM17 : MEM n M0 ([(7, ((kN 7 : Nat) : Int), upF (upF (upF (upF (upF (upF (dvF 7) 2 (n + 1)) 3 (n + 2)) 4 (n + 3)) 5 (n + 4)) 6 0) 0 x1), (20, 161, (fun _ => 0)), (20, 161, (fun _ => 0)), (20, 161, (fun _ => 0)), (20, 5940, (fun _ => 0))]) M17 := mM15.wr 0 eM17 (Int.add_zero n).symm rfl
  have q_M17 : mN M17 = n + 5 := mM17.1.2
  refine ⟨mM17.o 0 (Int.add_zero n).symm (Nat.le_of_ble_eq_true rfl) rfl, ?_⟩
  intro M19 eM19
  have mM19 : MEM n M0 ([(7, ((kN 7 : Nat) : Int), upF (upF (upF (upF (upF (upF (upF (dvF 7) 2 (n + 1)) 3 (n + 2)) 4 (n + 3)) 5 (n + 4)) 6 0) 0 x1) 1 x2), (20, 161, (fun _ => 0)), (20, 161, (fun _ => 0)), (20, 161, (fun _ => 0)), (20, 5940, (fun _ => 0))]) M19 := mM17.wr 0 eM19 (Int.add_zero n).symm rfl
  have q_M19 : mN M19 = n + 5 := mM19.1.2
  exact L8_66 hd h mM19

def cl_X11 (n : Int) (f g k : Int → Int) : List Cel := [(10, ((kN 10 : Nat) : Int), upF (upF (upF (upF (upF (upF (upF (upF (upF (upF (upF (upF (upF (upF (upF (upF (dvF 10) 0 (n + 1)) 1 (n + 13)) 2 (n + 14)) 3 0) 4 0) 5 (-1)) 6 (n + 15)) 7 0) 8 (n + 16)) 9 (n + 22)) 10 (n + 25)) 11 (n + 30)) 12 (n + 39)) 13 (n + 51)) 14 (n + 59)) 15 (n + 63))] ++ cl_X4 (n + 1) ++ [(23, 2, (fun _ => -1)), (20, 400, (fun _ => 0)), (20, 5, (fun _ => 0))] ++ cl_X7 (n + 16) ++ cl_X0 (n + 22) (n + 1) ++ cl_X8 (n + 25) (n + 1) (n + 22) f g k ++ cl_X3 (n + 30) (n + 1) (n + 25) ++ cl_X6 (n + 39) (n + 1) (n + 25) (n + 30) ++ cl_X1 (n + 51) (n + 1) (n + 22) ++ cl_X10 (n + 59) (n + 1) (n + 25) (n + 30) ++ cl_X10 (n + 63) (n + 1) (n + 25) (n + 30)
theorem T_X11_init {G : GG} {d : Nat} {n : Int} {M0 M : MM} {Q : PV → MM → Prop} (hd : 3 ≤ d) (m0 : MEM n M0 [(10, ((kN 10 : Nat) : Int), dvF 10)] M) (h : ∀ M' f g k, TB3 f g k → MEM n M0 (cl_X11 n f g k) M' → Q vU M') : C G Y_X11_init d 66 51625 [vA n] M Q := by
  refine C_X11_init (B_X11_init_0 (by omega) ?_)
  have n0 := m0.1.1
  have hd1 : 2 ≤ d - 1 := by omega
  have q_M : mN M = n + 1 := m0.1.2
  rw [q_M]
  refine ⟨n0, ?_⟩
  intro M2 eM2
  have yM2 := MEM.nil' (M := M) (k := n + 1) (Int.add_nonneg n0 (by decide)) q_M
  have zM2 := yM2.al eM2 rfl
  refine ⟨Int.add_nonneg n0 (by decide), ?_⟩
  refine T_X4_init (Nat.le_trans (by decide) hd1) zM2 (fun M4 gM4 => ?_)
  have mM4 : MEM n M0 ([(10, ((kN 10 : Nat) : Int), dvF 10)] ++ cl_X4 (n + 1)) M4 := m0.app rfl gM4 rfl
  have q_M4 : mN M4 = n + 13 := mM4.1.2
  show _ ∧ _
  refine ⟨mM4.o 0 (Int.add_zero n).symm (Nat.le_of_ble_eq_true rfl) rfl, ?_⟩
  intro M6 eM6
  have mM6 : MEM n M0 ([(10, ((kN 10 : Nat) : Int), upF (dvF 10) 0 (n + 1))] ++ cl_X4 (n + 1)) M6 := mM4.wr 0 eM6 (Int.add_zero n).symm rfl
  have q_M6 : mN M6 = n + 13 := mM6.1.2
  rw [q_M6]
  intro M7 eM7
  have mM7 : MEM n M0 ([(10, ((kN 10 : Nat) : Int), upF (dvF 10) 0 (n + 1))] ++ cl_X4 (n + 1) ++ [(23, 2, (fun _ => -1))]) M7 := mM6.al eM7 rfl
  have q_M7 : mN M7 = n + 14 := mM7.1.2
  refine ⟨mM7.o 0 (Int.add_zero n).symm (Nat.le_of_ble_eq_true rfl) rfl, ?_⟩
  intro M9 eM9
  have mM9 : MEM n M0 ([(10, ((kN 10 : Nat) : Int), upF (upF (dvF 10) 0 (n + 1)) 1 (n + 13))] ++ cl_X4 (n + 1) ++ [(23, 2, (fun _ => -1))]) M9 := mM7.wr 0 eM9 (Int.add_zero n).symm rfl
  have q_M9 : mN M9 = n + 14 := mM9.1.2
  rw [q_M9]
  intro M10 eM10
  have mM10 : MEM n M0 ([(10, ((kN 10 : Nat) : Int), upF (upF (dvF 10) 0 (n + 1)) 1 (n + 13))] ++ cl_X4 (n + 1) ++ [(23, 2, (fun _ => -1)), (20, 400, (fun _ => 0))]) M10 := mM9.al eM10 rfl
  have q_M10 : mN M10 = n + 15 := mM10.1.2
  refine ⟨mM10.o 0 (Int.add_zero n).symm (Nat.le_of_ble_eq_true rfl) rfl, ?_⟩
  intro M12 eM12
  have mM12 : MEM n M0 ([(10, ((kN 10 : Nat) : Int), upF (upF (upF (dvF 10) 0 (n + 1)) 1 (n + 13)) 2 (n + 14))] ++ cl_X4 (n + 1) ++ [(23, 2, (fun _ => -1)), (20, 400, (fun _ => 0))]) M12 := mM10.wr 0 eM12 (Int.add_zero n).symm rfl
  have q_M12 : mN M12 = n + 15 := mM12.1.2
  refine ⟨mM12.o 0 (Int.add_zero n).symm (Nat.le_of_ble_eq_true rfl) rfl, ?_⟩
  intro M14 eM14
  have mM14 : MEM n M0 ([(10, ((kN 10 : Nat) : Int), upF (upF (upF (upF (dvF 10) 0 (n + 1)) 1 (n + 13)) 2 (n + 14)) 3 0)] ++ cl_X4 (n + 1) ++ [(23, 2, (fun _ => -1)), (20, 400, (fun _ => 0))]) M14 := mM12.wr 0 eM14 (Int.add_zero n).symm rfl
  have q_M14 : mN M14 = n + 15 := mM14.1.2
  refine ⟨mM14.o 0 (Int.add_zero n).symm (Nat.le_of_ble_eq_true rfl) rfl, ?_⟩
  intro M16 eM16
  have mM16 : MEM n M0 ([(10, ((kN 10 : Nat) : Int), upF (upF (upF (upF (upF (dvF 10) 0 (n + 1)) 1 (n + 13)) 2 (n + 14)) 3 0) 4 0)] ++ cl_X4 (n + 1) ++ [(23, 2, (fun _ => -1)), (20, 400, (fun _ => 0))]) M16 := mM14.wr 0 eM16 (Int.add_zero n).symm rfl
  have q_M16 : mN M16 = n + 15 := mM16.1.2
  refine ⟨mM16.o 0 (Int.add_zero n).symm (Nat.le_of_ble_eq_true rfl) rfl, ?_⟩
  intro M18 eM18
  have mM18 : MEM n M0 ([(10, ((kN 10 : Nat) : Int), upF (upF (upF (upF (upF (upF (dvF 10) 0 (n + 1)) 1 (n + 13)) 2 (n + 14)) 3 0) 4 0) 5 (-1))] ++ cl_X4 (n + 1) ++ [(23, 2, (fun _ => -1)), (20, 400, (fun _ => 0))]) M18 := mM16.wr 0 eM18 (Int.add_zero n).symm rfl
  have q_M18 : mN M18 = n + 15 := mM18.1.2
  rw [q_M18]
  intro M19 eM19
  have mM19 : MEM n M0 ([(10, ((kN 10 : Nat) : Int), upF (upF (upF (upF (upF (upF (dvF 10) 0 (n + 1)) 1 (n + 13)) 2 (n + 14)) 3 0) 4 0) 5 (-1))] ++ cl_X4 (n + 1) ++ [(23, 2, (fun _ => -1)), (20, 400, (fun _ => 0)), (20, 5, (fun _ => 0))]) M19 := mM18.al eM19 rfl
  have q_M19 : mN M19 = n + 16 := mM19.1.2
  refine ⟨mM19.o 0 (Int.add_zero n).symm (Nat.le_of_ble_eq_true rfl) rfl, ?_⟩
  intro M21 eM21
  have mM21 : MEM n M0 ([(10, ((kN 10 : Nat) : Int), upF (upF (upF (upF (upF (upF (upF (dvF 10) 0 (n + 1)) 1 (n + 13)) 2 (n + 14)) 3 0) 4 0) 5 (-1)) 6 (n + 15))] ++ cl_X4 (n + 1) ++ [(23, 2, (fun _ => -1)), (20, 400, (fun _ => 0)), (20, 5, (fun _ => 0))]) M21 := mM19.wr 0 eM21 (Int.add_zero n).symm rfl
  have q_M21 : mN M21 = n + 16 := mM21.1.2
  refine ⟨mM21.o 0 (Int.add_zero n).symm (Nat.le_of_ble_eq_true rfl) rfl, ?_⟩
  intro M23 eM23
  have mM23 : MEM n M0 ([(10, ((kN 10 : Nat) : Int), upF (upF (upF (upF (upF (upF (upF (upF (dvF 10) 0 (n + 1)) 1 (n + 13)) 2 (n + 14)) 3 0) 4 0) 5 (-1)) 6 (n + 15)) 7 0)] ++ cl_X4 (n + 1) ++ [(23, 2, (fun _ => -1)), (20, 400, (fun _ => 0)), (20, 5, (fun _ => 0))]) M23 := mM21.wr 0 eM23 (Int.add_zero n).symm rfl
  have q_M23 : mN M23 = n + 16 := mM23.1.2
  rw [q_M23]
  intro M24 eM24
  have yM24 := MEM.nil' (M := M23) (k := n + 16) (Int.add_nonneg n0 (by decide)) q_M23
  have zM24 := yM24.al eM24 rfl
  refine ⟨Int.add_nonneg n0 (by decide), ?_⟩
  refine T_X7_init (Nat.le_trans (by decide) hd1) zM24 (fun M26 gM26 => ?_)
  have mM26 : MEM n M0 ([(10, ((kN 10 : Nat) : Int), upF (upF (upF (upF (upF (upF (upF (upF (dvF 10) 0 (n + 1)) 1 (n + 13)) 2 (n + 14)) 3 0) 4 0) 5 (-1)) 6 (n + 15)) 7 0)] ++ cl_X4 (n + 1) ++ [(23, 2, (fun _ => -1)), (20, 400, (fun _ => 0)), (20, 5, (fun _ => 0))] ++ cl_X7 (n + 16)) M26 := mM23.app rfl gM26 rfl
  have q_M26 : mN M26 = n + 22 := mM26.1.2
  show _ ∧ _
  refine ⟨mM26.o 0 (Int.add_zero n).symm (Nat.le_of_ble_eq_true rfl) rfl, ?_⟩
  intro M28 eM28
  have mM28 : MEM n M0 ([(10, ((kN 10 : Nat) : Int), upF (upF (upF (upF (upF (upF (upF (upF (upF (dvF 10) 0 (n + 1)) 1 (n + 13)) 2 (n + 14)) 3 0) 4 0) 5 (-1)) 6 (n + 15)) 7 0) 8 (n + 16))] ++ cl_X4 (n + 1) ++ [(23, 2, (fun _ => -1)), (20, 400, (fun _ => 0)), (20, 5, (fun _ => 0))] ++ cl_X7 (n + 16)) M28 := mM26.wr 0 eM28 (Int.add_zero n).symm rfl
  have q_M28 : mN M28 = n + 22 := mM28.1.2
  rw [q_M28]
  intro M29 eM29
  have yM29 := MEM.nil' (M := M28) (k := n + 22) (Int.add_nonneg n0 (by decide)) q_M28
  have zM29 := yM29.al eM29 rfl
  rw [show rd M29 n 0 = n + 1 from ((zM29.2.1 n (Int.lt_add_of_pos_right n (by decide))).2 0).trans ((mM28.r 0 (Int.add_zero n).symm (Nat.le_of_ble_eq_true rfl)).trans rfl)]
  refine ⟨((mM28.al eM29 rfl : MEM n M0 (([(10, ((kN 10 : Nat) : Int), upF (upF (upF (upF (upF (upF (upF (upF (upF (dvF 10) 0 (n + 1)) 1 (n + 13)) 2 (n + 14)) 3 0) 4 0) 5 (-1)) 6 (n + 15)) 7 0) 8 (n + 16))] ++ cl_X4 (n + 1) ++ [(23, 2, (fun _ => -1)), (20, 400, (fun _ => 0)), (20, 5, (fun _ => 0))] ++ cl_X7 (n + 16)) ++ [(0, ((kN 0 : Nat) : Int), dvF 0)]) M29)).o 0 (Int.add_zero n).symm (Nat.le_of_ble_eq_true rfl) rfl, ?_⟩
  refine ⟨Int.add_nonneg n0 (by decide), ?_⟩
  refine T_X0_init (Nat.le_trans (by decide) hd1) zM29 (fun M32 gM32 => ?_)
  have mM32 : MEM n M0 ([(10, ((kN 10 : Nat) : Int), upF (upF (upF (upF (upF (upF (upF (upF (upF (dvF 10) 0 (n + 1)) 1 (n + 13)) 2 (n + 14)) 3 0) 4 0) 5 (-1)) 6 (n + 15)) 7 0) 8 (n + 16))] ++ cl_X4 (n + 1) ++ [(23, 2, (fun _ => -1)), (20, 400, (fun _ => 0)), (20, 5, (fun _ => 0))] ++ cl_X7 (n + 16) ++ cl_X0 (n + 22) (n + 1)) M32 := mM28.app rfl gM32 rfl
  have q_M32 : mN M32 = n + 25 := mM32.1.2
  show _ ∧ _
  refine ⟨mM32.o 0 (Int.add_zero n).symm (Nat.le_of_ble_eq_true rfl) rfl, ?_⟩
  intro M34 eM34
  have mM34 : MEM n M0 ([(10, ((kN 10 : Nat) : Int), upF (upF (upF (upF (upF (upF (upF (upF (upF (upF (dvF 10) 0 (n + 1)) 1 (n + 13)) 2 (n + 14)) 3 0) 4 0) 5 (-1)) 6 (n + 15)) 7 0) 8 (n + 16)) 9 (n + 22))] ++ cl_X4 (n + 1) ++ [(23, 2, (fun _ => -1)), (20, 400, (fun _ => 0)), (20, 5, (fun _ => 0))] ++ cl_X7 (n + 16) ++ cl_X0 (n + 22) (n + 1)) M34 := mM32.wr 0 eM34 (Int.add_zero n).symm rfl
  have q_M34 : mN M34 = n + 25 := mM34.1.2
  rw [q_M34]
  intro M35 eM35
  have yM35 := MEM.nil' (M := M34) (k := n + 25) (Int.add_nonneg n0 (by decide)) q_M34
  have zM35 := yM35.al eM35 rfl
  rw [show rd M35 n 0 = n + 1 from ((zM35.2.1 n (Int.lt_add_of_pos_right n (by decide))).2 0).trans ((mM34.r 0 (Int.add_zero n).symm (Nat.le_of_ble_eq_true rfl)).trans rfl)]
  rw [show rd M35 n 9 = n + 22 from ((zM35.2.1 n (Int.lt_add_of_pos_right n (by decide))).2 9).trans ((mM34.r 0 (Int.add_zero n).symm (Nat.le_of_ble_eq_true rfl)).trans rfl)]
  refine ⟨((mM34.al eM35 rfl : MEM n M0 (([(10, ((kN 10 : Nat) : Int), upF (upF (upF (upF (upF (upF (upF (upF (upF (upF (dvF 10) 0 (n + 1)) 1 (n + 13)) 2 (n + 14)) 3 0) 4 0) 5 (-1)) 6 (n + 15)) 7 0) 8 (n + 16)) 9 (n + 22))] ++ cl_X4 (n + 1) ++ [(23, 2, (fun _ => -1)), (20, 400, (fun _ => 0)), (20, 5, (fun _ => 0))] ++ cl_X7 (n + 16) ++ cl_X0 (n + 22) (n + 1)) ++ [(7, ((kN 7 : Nat) : Int), dvF 7)]) M35)).o 0 (Int.add_zero n).symm (Nat.le_of_ble_eq_true rfl) rfl, ?_⟩
  refine ⟨Int.add_nonneg n0 (by decide), ?_⟩
  refine T_X8_init (Nat.le_trans (by decide) hd1) zM35 (fun M38 f g k hfgk gM38 => ?_)
  have mM38 : MEM n M0 ([(10, ((kN 10 : Nat) : Int), upF (upF (upF (upF (upF (upF (upF (upF (upF (upF (dvF 10) 0 (n + 1)) 1 (n + 13)) 2 (n + 14)) 3 0) 4 0) 5 (-1)) 6 (n + 15)) 7 0) 8 (n + 16)) 9 (n + 22))] ++ cl_X4 (n + 1) ++ [(23, 2, (fun _ => -1)), (20, 400, (fun _ => 0)), (20, 5, (fun _ => 0))] ++ cl_X7 (n + 16) ++ cl_X0 (n + 22) (n + 1) ++ cl_X8 (n + 25) (n + 1) (n + 22) f g k) M38 := mM34.app rfl gM38 rfl
  have q_M38 : mN M38 = n + 30 := mM38.1.2
  show _ ∧ _
  refine ⟨mM38.o 0 (Int.add_zero n).symm (Nat.le_of_ble_eq_true rfl) rfl, ?_⟩
  intro M40 eM40
  have mM40 : MEM n M0 ([(10, ((kN 10 : Nat) : Int), upF (upF (upF (upF (upF (upF (upF (upF (upF (upF (upF (dvF 10) 0 (n + 1)) 1 (n + 13)) 2 (n + 14)) 3 0) 4 0) 5 (-1)) 6 (n + 15)) 7 0) 8 (n + 16)) 9 (n + 22)) 10 (n + 25))] ++ cl_X4 (n + 1) ++ [(23, 2, (fun _ => -1)), (20, 400, (fun _ => 0)), (20, 5, (fun _ => 0))] ++ cl_X7 (n + 16) ++ cl_X0 (n + 22) (n + 1) ++ cl_X8 (n + 25) (n + 1) (n + 22) f g k) M40 := mM38.wr 0 eM40 (Int.add_zero n).symm rfl
  have q_M40 : mN M40 = n + 30 := mM40.1.2
  rw [q_M40]
  intro M41 eM41
  have yM41 := MEM.nil' (M := M40) (k := n + 30) (Int.add_nonneg n0 (by decide)) q_M40
  have zM41 := yM41.al eM41 rfl
  rw [show rd M41 n 0 = n + 1 from ((zM41.2.1 n (Int.lt_add_of_pos_right n (by decide))).2 0).trans ((mM40.r 0 (Int.add_zero n).symm (Nat.le_of_ble_eq_true rfl)).trans rfl)]
  rw [show rd M41 n 10 = n + 25 from ((zM41.2.1 n (Int.lt_add_of_pos_right n (by decide))).2 10).trans ((mM40.r 0 (Int.add_zero n).symm (Nat.le_of_ble_eq_true rfl)).trans rfl)]
  refine ⟨((mM40.al eM41 rfl : MEM n M0 (([(10, ((kN 10 : Nat) : Int), upF (upF (upF (upF (upF (upF (upF (upF (upF (upF (upF (dvF 10) 0 (n + 1)) 1 (n + 13)) 2 (n + 14)) 3 0) 4 0) 5 (-1)) 6 (n + 15)) 7 0) 8 (n + 16)) 9 (n + 22)) 10 (n + 25))] ++ cl_X4 (n + 1) ++ [(23, 2, (fun _ => -1)), (20, 400, (fun _ => 0)), (20, 5, (fun _ => 0))] ++ cl_X7 (n + 16) ++ cl_X0 (n + 22) (n + 1) ++ cl_X8 (n + 25) (n + 1) (n + 22) f g k) ++ [(2, ((kN 2 : Nat) : Int), dvF 2)]) M41)).o 0 (Int.add_zero n).symm (Nat.le_of_ble_eq_true rfl) rfl, ?_⟩
  refine ⟨Int.add_nonneg n0 (by decide), ?_⟩
  refine T_X3_init (Nat.le_trans (by decide) hd1) zM41 (fun M44 gM44 => ?_)
  have mM44 : MEM n M0 ([(10, ((kN 10 : Nat) : Int), upF (upF (upF (upF (upF (upF (upF (upF (upF (upF (upF (dvF 10) 0 (n + 1)) 1 (n + 13)) 2 (n + 14)) 3 0) 4 0) 5 (-1)) 6 (n + 15)) 7 0) 8 (n + 16)) 9 (n + 22)) 10 (n + 25))] ++ cl_X4 (n + 1) ++ [(23, 2, (fun _ => -1)), (20, 400, (fun _ => 0)), (20, 5, (fun _ => 0))] ++ cl_X7 (n + 16) ++ cl_X0 (n + 22) (n + 1) ++ cl_X8 (n + 25) (n + 1) (n + 22) f g k ++ cl_X3 (n + 30) (n + 1) (n + 25)) M44 := mM40.app rfl gM44 rfl
  have q_M44 : mN M44 = n + 39 := mM44.1.2
  show _ ∧ _
  refine ⟨mM44.o 0 (Int.add_zero n).symm (Nat.le_of_ble_eq_true rfl) rfl, ?_⟩
  intro M46 eM46
  have mM46 : MEM n M0 ([(10, ((kN 10 : Nat) : Int), upF (upF (upF (upF (upF (upF (upF (upF (upF (upF (upF (upF (dvF 10) 0 (n + 1)) 1 (n + 13)) 2 (n + 14)) 3 0) 4 0) 5 (-1)) 6 (n + 15)) 7 0) 8 (n + 16)) 9 (n + 22)) 10 (n + 25)) 11 (n + 30))] ++ cl_X4 (n + 1) ++ [(23, 2, (fun _ => -1)), (20, 400, (fun _ => 0)), (20, 5, (fun _ => 0))] ++ cl_X7 (n + 16) ++ cl_X0 (n + 22) (n + 1) ++ cl_X8 (n + 25) (n + 1) (n + 22) f g k ++ cl_X3 (n + 30) (n + 1) (n + 25)) M46 := mM44.wr 0 eM46 (Int.add_zero n).symm rfl
  have q_M46 : mN M46 = n + 39 := mM46.1.2
  rw [q_M46]
  intro M47 eM47
  have yM47 := MEM.nil' (M := M46) (k := n + 39) (Int.add_nonneg n0 (by decide)) q_M46
  have zM47 := yM47.al eM47 rfl
  rw [show rd M47 n 0 = n + 1 from ((zM47.2.1 n (Int.lt_add_of_pos_right n (by decide))).2 0).trans ((mM46.r 0 (Int.add_zero n).symm (Nat.le_of_ble_eq_true rfl)).trans rfl)]
  rw [show rd M47 n 10 = n + 25 from ((zM47.2.1 n (Int.lt_add_of_pos_right n (by decide))).2 10).trans ((mM46.r 0 (Int.add_zero n).symm (Nat.le_of_ble_eq_true rfl)).trans rfl)]
  rw [show rd M47 n 11 = n + 30 from ((zM47.2.1 n (Int.lt_add_of_pos_right n (by decide))).2 11).trans ((mM46.r 0 (Int.add_zero n).symm (Nat.le_of_ble_eq_true rfl)).trans rfl)]
  refine ⟨((mM46.al eM47 rfl : MEM n M0 (([(10, ((kN 10 : Nat) : Int), upF (upF (upF (upF (upF (upF (upF (upF (upF (upF (upF (upF (dvF 10) 0 (n + 1)) 1 (n + 13)) 2 (n + 14)) 3 0) 4 0) 5 (-1)) 6 (n + 15)) 7 0) 8 (n + 16)) 9 (n + 22)) 10 (n + 25)) 11 (n + 30))] ++ cl_X4 (n + 1) ++ [(23, 2, (fun _ => -1)), (20, 400, (fun _ => 0)), (20, 5, (fun _ => 0))] ++ cl_X7 (n + 16) ++ cl_X0 (n + 22) (n + 1) ++ cl_X8 (n + 25) (n + 1) (n + 22) f g k ++ cl_X3 (n + 30) (n + 1) (n + 25)) ++ [(5, ((kN 5 : Nat) : Int), dvF 5)]) M47)).o 0 (Int.add_zero n).symm (Nat.le_of_ble_eq_true rfl) rfl, ?_⟩
  refine ⟨Int.add_nonneg n0 (by decide), ?_⟩
  refine T_X6_init (Nat.le_trans (by decide) hd1) zM47 (fun M50 gM50 => ?_)
  have mM50 : MEM n M0 ([(10, ((kN 10 : Nat) : Int), upF (upF (upF (upF (upF (upF (upF (upF (upF (upF (upF (upF (dvF 10) 0 (n + 1)) 1 (n + 13)) 2 (n + 14)) 3 0) 4 0) 5 (-1)) 6 (n + 15)) 7 0) 8 (n + 16)) 9 (n + 22)) 10 (n + 25)) 11 (n + 30))] ++ cl_X4 (n + 1) ++ [(23, 2, (fun _ => -1)), (20, 400, (fun _ => 0)), (20, 5, (fun _ => 0))] ++ cl_X7 (n + 16) ++ cl_X0 (n + 22) (n + 1) ++ cl_X8 (n + 25) (n + 1) (n + 22) f g k ++ cl_X3 (n + 30) (n + 1) (n + 25) ++ cl_X6 (n + 39) (n + 1) (n + 25) (n + 30)) M50 := mM46.app rfl gM50 rfl
  have q_M50 : mN M50 = n + 51 := mM50.1.2
  show _ ∧ _
  refine ⟨mM50.o 0 (Int.add_zero n).symm (Nat.le_of_ble_eq_true rfl) rfl, ?_⟩
  intro M52 eM52
  have mM52 : MEM n M0 ([(10, ((kN 10 : Nat) : Int), upF (upF (upF (upF (upF (upF (upF (upF (upF (upF (upF (upF (upF (dvF 10) 0 (n + 1)) 1 (n + 13)) 2 (n + 14)) 3 0) 4 0) 5 (-1)) 6 (n + 15)) 7 0) 8 (n + 16)) 9 (n + 22)) 10 (n + 25)) 11 (n + 30)) 12 (n + 39))] ++ cl_X4 (n + 1) ++ [(23, 2, (fun _ => -1)), (20, 400, (fun _ => 0)), (20, 5, (fun _ => 0))] ++ cl_X7 (n + 16) ++ cl_X0 (n + 22) (n + 1) ++ cl_X8 (n + 25) (n + 1) (n + 22) f g k ++ cl_X3 (n + 30) (n + 1) (n + 25) ++ cl_X6 (n + 39) (n + 1) (n + 25) (n + 30)) M52 := mM50.wr 0 eM52 (Int.add_zero n).symm rfl
  have q_M52 : mN M52 = n + 51 := mM52.1.2
  rw [q_M52]
  intro M53 eM53
  have yM53 := MEM.nil' (M := M52) (k := n + 51) (Int.add_nonneg n0 (by decide)) q_M52
  have zM53 := yM53.al eM53 rfl
  rw [show rd M53 n 0 = n + 1 from ((zM53.2.1 n (Int.lt_add_of_pos_right n (by decide))).2 0).trans ((mM52.r 0 (Int.add_zero n).symm (Nat.le_of_ble_eq_true rfl)).trans rfl)]
  rw [show rd M53 n 9 = n + 22 from ((zM53.2.1 n (Int.lt_add_of_pos_right n (by decide))).2 9).trans ((mM52.r 0 (Int.add_zero n).symm (Nat.le_of_ble_eq_true rfl)).trans rfl)]
  refine ⟨((mM52.al eM53 rfl : MEM n M0 (([(10, ((kN 10 : Nat) : Int), upF (upF (upF (upF (upF (upF (upF (upF (upF (upF (upF (upF (upF (dvF 10) 0 (n + 1)) 1 (n + 13)) 2 (n + 14)) 3 0) 4 0) 5 (-1)) 6 (n + 15)) 7 0) 8 (n + 16)) 9 (n + 22)) 10 (n + 25)) 11 (n + 30)) 12 (n + 39))] ++ cl_X4 (n + 1) ++ [(23, 2, (fun _ => -1)), (20, 400, (fun _ => 0)), (20, 5, (fun _ => 0))] ++ cl_X7 (n + 16) ++ cl_X0 (n + 22) (n + 1) ++ cl_X8 (n + 25) (n + 1) (n + 22) f g k ++ cl_X3 (n + 30) (n + 1) (n + 25) ++ cl_X6 (n + 39) (n + 1) (n + 25) (n + 30)) ++ [(1, ((kN 1 : Nat) : Int), dvF 1)]) M53)).o 0 (Int.add_zero n).symm (Nat.le_of_ble_eq_true rfl) rfl, ?_⟩
  refine ⟨Int.add_nonneg n0 (by decide), ?_⟩
  refine T_X1_init (Nat.le_trans (by decide) hd1) zM53 (fun M56 gM56 => ?_)
  have mM56 : MEM n M0 ([(10, ((kN 10 : Nat) : Int), upF (upF (upF (upF (upF (upF (upF (upF (upF (upF (upF (upF (upF (dvF 10) 0 (n + 1)) 1 (n + 13)) 2 (n + 14)) 3 0) 4 0) 5 (-1)) 6 (n + 15)) 7 0) 8 (n + 16)) 9 (n + 22)) 10 (n + 25)) 11 (n + 30)) 12 (n + 39))] ++ cl_X4 (n + 1) ++ [(23, 2, (fun _ => -1)), (20, 400, (fun _ => 0)), (20, 5, (fun _ => 0))] ++ cl_X7 (n + 16) ++ cl_X0 (n + 22) (n + 1) ++ cl_X8 (n + 25) (n + 1) (n + 22) f g k ++ cl_X3 (n + 30) (n + 1) (n + 25) ++ cl_X6 (n + 39) (n + 1) (n + 25) (n + 30) ++ cl_X1 (n + 51) (n + 1) (n + 22)) M56 := mM52.app rfl gM56 rfl
  have q_M56 : mN M56 = n + 59 := mM56.1.2
  show _ ∧ _
  refine ⟨mM56.o 0 (Int.add_zero n).symm (Nat.le_of_ble_eq_true rfl) rfl, ?_⟩
  intro M58 eM58
  have mM58 : MEM n M0 ([(10, ((kN 10 : Nat) : Int), upF (upF (upF (upF (upF (upF (upF (upF (upF (upF (upF (upF (upF (upF (dvF 10) 0 (n + 1)) 1 (n + 13)) 2 (n + 14)) 3 0) 4 0) 5 (-1)) 6 (n + 15)) 7 0) 8 (n + 16)) 9 (n + 22)) 10 (n + 25)) 11 (n + 30)) 12 (n + 39)) 13 (n + 51))] ++ cl_X4 (n + 1) ++ [(23, 2, (fun _ => -1)), (20, 400, (fun _ => 0)), (20, 5, (fun _ => 0))] ++ cl_X7 (n + 16) ++ cl_X0 (n + 22) (n + 1) ++ cl_X8 (n + 25) (n + 1) (n + 22) f g k ++ cl_X3 (n + 30) (n + 1) (n + 25) ++ cl_X6 (n + 39) (n + 1) (n + 25) (n + 30) ++ cl_X1 (n + 51) (n + 1) (n + 22)) M58 := mM56.wr 0 eM58 (Int.add_zero n).symm rfl
  have q_M58 : mN M58 = n + 59 := mM58.1.2
  rw [q_M58]
  intro M59 eM59
  have yM59 := MEM.nil' (M := M58) (k := n + 59) (Int.add_nonneg n0 (by decide)) q_M58
  have zM59 := yM59.al eM59 rfl
  rw [show rd M59 n 0 = n + 1 from ((zM59.2.1 n (Int.lt_add_of_pos_right n (by decide))).2 0).trans ((mM58.r 0 (Int.add_zero n).symm (Nat.le_of_ble_eq_true rfl)).trans rfl)]
  rw [show rd M59 n 10 = n + 25 from ((zM59.2.1 n (Int.lt_add_of_pos_right n (by decide))).2 10).trans ((mM58.r 0 (Int.add_zero n).symm (Nat.le_of_ble_eq_true rfl)).trans rfl)]
  rw [show rd M59 n 11 = n + 30 from ((zM59.2.1 n (Int.lt_add_of_pos_right n (by decide))).2 11).trans ((mM58.r 0 (Int.add_zero n).symm (Nat.le_of_ble_eq_true rfl)).trans rfl)]
  refine ⟨((mM58.al eM59 rfl : MEM n M0 (([(10, ((kN 10 : Nat) : Int), upF (upF (upF (upF (upF (upF (upF (upF (upF (upF (upF (upF (upF (upF (dvF 10) 0 (n + 1)) 1 (n + 13)) 2 (n + 14)) 3 0) 4 0) 5 (-1)) 6 (n + 15)) 7 0) 8 (n + 16)) 9 (n + 22)) 10 (n + 25)) 11 (n + 30)) 12 (n + 39)) 13 (n + 51))] ++ cl_X4 (n + 1) ++ [(23, 2, (fun _ => -1)), (20, 400, (fun _ => 0)), (20, 5, (fun _ => 0))] ++ cl_X7 (n + 16) ++ cl_X0 (n + 22) (n + 1) ++ cl_X8 (n + 25) (n + 1) (n + 22) f g k ++ cl_X3 (n + 30) (n + 1) (n + 25) ++ cl_X6 (n + 39) (n + 1) (n + 25) (n + 30) ++ cl_X1 (n + 51) (n + 1) (n + 22)) ++ [(9, ((kN 9 : Nat) : Int), dvF 9)]) M59)).o 0 (Int.add_zero n).symm (Nat.le_of_ble_eq_true rfl) rfl, ?_⟩
  refine ⟨Int.add_nonneg n0 (by decide), ?_⟩
  refine T_X10_init (Nat.le_trans (by decide) hd1) zM59 (fun M62 gM62 => ?_)
  have mM62 : MEM n M0 ([(10, ((kN 10 : Nat) : Int), upF (upF (upF (upF (upF (upF (upF (upF (upF (upF (upF (upF (upF (upF (dvF 10) 0 (n + 1)) 1 (n + 13)) 2 (n + 14)) 3 0) 4 0) 5 (-1)) 6 (n + 15)) 7 0) 8 (n + 16)) 9 (n + 22)) 10 (n + 25)) 11 (n + 30)) 12 (n + 39)) 13 (n + 51))] ++ cl_X4 (n + 1) ++ [(23, 2, (fun _ => -1)), (20, 400, (fun _ => 0)), (20, 5, (fun _ => 0))] ++ cl_X7 (n + 16) ++ cl_X0 (n + 22) (n + 1) ++ cl_X8 (n + 25) (n + 1) (n + 22) f g k ++ cl_X3 (n + 30) (n + 1) (n + 25) ++ cl_X6 (n + 39) (n + 1) (n + 25) (n + 30) ++ cl_X1 (n + 51) (n + 1) (n + 22) ++ cl_X10 (n + 59) (n + 1) (n + 25) (n + 30)) M62 := mM58.app rfl gM62 rfl
  have q_M62 : mN M62 = n + 63 := mM62.1.2
  show _ ∧ _
  refine ⟨mM62.o 0 (Int.add_zero n).symm (Nat.le_of_ble_eq_true rfl) rfl, ?_⟩
  intro M64 eM64
  have mM64 : MEM n M0 ([(10, ((kN 10 : Nat) : Int), upF (upF (upF (upF (upF (upF (upF (upF (upF (upF (upF (upF (upF (upF (upF (dvF 10) 0 (n + 1)) 1 (n + 13)) 2 (n + 14)) 3 0) 4 0) 5 (-1)) 6 (n + 15)) 7 0) 8 (n + 16)) 9 (n + 22)) 10 (n + 25)) 11 (n + 30)) 12 (n + 39)) 13 (n + 51)) 14 (n + 59))] ++ cl_X4 (n + 1) ++ [(23, 2, (fun _ => -1)), (20, 400, (fun _ => 0)), (20, 5, (fun _ => 0))] ++ cl_X7 (n + 16) ++ cl_X0 (n + 22) (n + 1) ++ cl_X8 (n + 25) (n + 1) (n + 22) f g k ++ cl_X3 (n + 30) (n + 1) (n + 25) ++ cl_X6 (n + 39) (n + 1) (n + 25) (n + 30) ++ cl_X1 (n + 51) (n + 1) (n + 22) ++ cl_X10 (n + 59) (n + 1) (n + 25) (n + 30)) M64 := mM62.wr 0 eM64 (Int.add_zero n).symm rfl
  have q_M64 : mN M64 = n + 63 := mM64.1.2
  rw [q_M64]
  intro M65 eM65
  have yM65 := MEM.nil' (M := M64) (k := n + 63) (Int.add_nonneg n0 (by decide)) q_M64
  have zM65 := yM65.al eM65 rfl
  rw [show rd M65 n 0 = n + 1 from ((zM65.2.1 n (Int.lt_add_of_pos_right n (by decide))).2 0).trans ((mM64.r 0 (Int.add_zero n).symm (Nat.le_of_ble_eq_true rfl)).trans rfl)]
  rw [show rd M65 n 10 = n + 25 from ((zM65.2.1 n (Int.lt_add_of_pos_right n (by decide))).2 10).trans ((mM64.r 0 (Int.add_zero n).symm (Nat.le_of_ble_eq_true rfl)).trans rfl)]
  rw [show rd M65 n 11 = n + 30 from ((zM65.2.1 n (Int.lt_add_of_pos_right n (by decide))).2 11).trans ((mM64.r 0 (Int.add_zero n).symm (Nat.le_of_ble_eq_true rfl)).trans rfl)]
  refine ⟨((mM64.al eM65 rfl : MEM n M0 (([(10, ((kN 10 : Nat) : Int), upF (upF (upF (upF (upF (upF (upF (upF (upF (upF (upF (upF (upF (upF (upF (dvF 10) 0 (n + 1)) 1 (n + 13)) 2 (n + 14)) 3 0) 4 0) 5 (-1)) 6 (n + 15)) 7 0) 8 (n + 16)) 9 (n + 22)) 10 (n + 25)) 11 (n + 30)) 12 (n + 39)) 13 (n + 51)) 14 (n + 59))] ++ cl_X4 (n + 1) ++ [(23, 2, (fun _ => -1)), (20, 400, (fun _ => 0)), (20, 5, (fun _ => 0))] ++ cl_X7 (n + 16) ++ cl_X0 (n + 22) (n + 1) ++ cl_X8 (n + 25) (n + 1) (n + 22) f g k ++ cl_X3 (n + 30) (n + 1) (n + 25) ++ cl_X6 (n + 39) (n + 1) (n + 25) (n + 30) ++ cl_X1 (n + 51) (n + 1) (n + 22) ++ cl_X10 (n + 59) (n + 1) (n + 25) (n + 30)) ++ [(9, ((kN 9 : Nat) : Int), dvF 9)]) M65)).o 0 (Int.add_zero n).symm (Nat.le_of_ble_eq_true rfl) rfl, ?_⟩
  refine ⟨Int.add_nonneg n0 (by decide), ?_⟩
  refine T_X10_init (Nat.le_trans (by decide) hd1) zM65 (fun M68 gM68 => ?_)
  have mM68 : MEM n M0 ([(10, ((kN 10 : Nat) : Int), upF (upF (upF (upF (upF (upF (upF (upF (upF (upF (upF (upF (upF (upF (upF (dvF 10) 0 (n + 1)) 1 (n + 13)) 2 (n + 14)) 3 0) 4 0) 5 (-1)) 6 (n + 15)) 7 0) 8 (n + 16)) 9 (n + 22)) 10 (n + 25)) 11 (n + 30)) 12 (n + 39)) 13 (n + 51)) 14 (n + 59))] ++ cl_X4 (n + 1) ++ [(23, 2, (fun _ => -1)), (20, 400, (fun _ => 0)), (20, 5, (fun _ => 0))] ++ cl_X7 (n + 16) ++ cl_X0 (n + 22) (n + 1) ++ cl_X8 (n + 25) (n + 1) (n + 22) f g k ++ cl_X3 (n + 30) (n + 1) (n + 25) ++ cl_X6 (n + 39) (n + 1) (n + 25) (n + 30) ++ cl_X1 (n + 51) (n + 1) (n + 22) ++ cl_X10 (n + 59) (n + 1) (n + 25) (n + 30) ++ cl_X10 (n + 63) (n + 1) (n + 25) (n + 30)) M68 := mM64.app rfl gM68 rfl
  have q_M68 : mN M68 = n + 67 := mM68.1.2
  show _ ∧ _
  refine ⟨mM68.o 0 (Int.add_zero n).symm (Nat.le_of_ble_eq_true rfl) rfl, ?_⟩
  intro M70 eM70
  have mM70 : MEM n M0 ([(10, ((kN 10 : Nat) : Int), upF (upF (upF (upF (upF (upF (upF (upF (upF (upF (upF (upF (upF (upF (upF (upF (dvF 10) 0 (n + 1)) 1 (n + 13)) 2 (n + 14)) 3 0) 4 0) 5 (-1)) 6 (n + 15)) 7 0) 8 (n + 16)) 9 (n + 22)) 10 (n + 25)) 11 (n + 30)) 12 (n + 39)) 13 (n + 51)) 14 (n + 59)) 15 (n + 63))] ++ cl_X4 (n + 1) ++ [(23, 2, (fun _ => -1)), (20, 400, (fun _ => 0)), (20, 5, (fun _ => 0))] ++ cl_X7 (n + 16) ++ cl_X0 (n + 22) (n + 1) ++ cl_X8 (n + 25) (n + 1) (n + 22) f g k ++ cl_X3 (n + 30) (n + 1) (n + 25) ++ cl_X6 (n + 39) (n + 1) (n + 25) (n + 30) ++ cl_X1 (n + 51) (n + 1) (n + 22) ++ cl_X10 (n + 59) (n + 1) (n + 25) (n + 30) ++ cl_X10 (n + 63) (n + 1) (n + 25) (n + 30)) M70 := mM68.wr 0 eM70 (Int.add_zero n).symm rfl
  have q_M70 : mN M70 = n + 67 := mM70.1.2
  exact h _ f g k hfgk mM70
