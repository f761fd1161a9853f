def fsL : List Int := [0, 0, 0, 0, 0, 0, 5, 0, 0, 0, 0, 0, 9, 0, 0, 0, 13, 16, 0, 0, 0, 0, 0, 19, 0, 0, 23, 0, 26, 0, 0, 0, 29, 32, 0, 0, 35, 37, 39, 0, 0, 0, 0, 0, 41, 0, 45, 0, 0, 48, 0, 0, 51, 0, 54, 0, 57, 59, 0, 61, 0, 0, 0, 63, 66, 0, 69, 0, 71, 73, 0, 0, 75, 77, 79, 0, 81, 82, 83, 84, 0, 0, 0, 0, 0, 85, 89, 0, 0, 0, 92, 0, 95, 0, 0, 98, 101, 103, 0, 0, 105, 0, 0, 107, 0, 110, 113, 0, 115, 0, 117, 0, 119, 121, 0, 123, 125, 126, 127, 0, 128, 0, 0, 0, 129, 132, 135, 0, 0, 137, 139, 0, 141, 0, 143, 145, 147, 148, 0, 149, 150, 0, 0, 151, 153, 155, 157, 0, 158, 159, 160, 0, 161, 162, 163, 164, 165, 165, 165, 165, 165]
def flL : List Int := [0, 0, 0, 0, 0, 0, 504, 0, 0, 0, 0, 0, 900, 0, 0, 0, 1296, 1620, 0, 0, 0, 0, 0, 1944, 0, 0, 2340, 0, 2664, 0, 0, 0, 2988, 3312, 0, 0, 3636, 3852, 4068, 0, 0, 0, 0, 0, 4284, 0, 4680, 0, 0, 5004, 0, 0, 5328, 0, 5652, 0, 5976, 6192, 0, 6408, 0, 0, 0, 6624, 6948, 0, 7272, 0, 7488, 7704, 0, 0, 7920, 8136, 8352, 0, 8568, 8712, 8856, 9000, 0, 0, 0, 0, 0, 9144, 9540, 0, 0, 0, 9864, 0, 10188, 0, 0, 10512, 10836, 11052, 0, 0, 11268, 0, 0, 11484, 0, 11808, 12132, 0, 12348, 0, 12564, 0, 12780, 12996, 0, 13212, 13428, 13572, 13716, 0, 13860, 0, 0, 0, 14004, 14328, 14652, 0, 0, 14868, 15084, 0, 15300, 0, 15516, 15732, 15948, 16092, 0, 16236, 16380, 0, 0, 16524, 16740, 16956, 17172, 0, 17316, 17460, 17604, 0, 17748, 17892, 18036, 18180, 18324, 18360, 18396, 18432, 18468]
def fqL : List Int := [0, 0, 0, 0, 0, 0, 36, 0, 0, 0, 0, 0, 72, 0, 0, 0, 108, 144, 0, 0, 0, 0, 0, 180, 0, 0, 216, 0, 252, 0, 0, 0, 288, 324, 0, 0, 360, 396, 432, 0, 0, 0, 0, 0, 468, 0, 504, 0, 0, 540, 0, 0, 576, 0, 612, 0, 648, 684, 0, 720, 0, 0, 0, 756, 792, 0, 828, 0, 864, 900, 0, 0, 936, 972, 1008, 0, 1044, 1080, 1116, 1152, 0, 0, 0, 0, 0, 1188, 1224, 0, 0, 0, 1260, 0, 1296, 0, 0, 1332, 1368, 1404, 0, 0, 1440, 0, 0, 1476, 0, 1512, 1548, 0, 1584, 0, 1620, 0, 1656, 1692, 0, 1728, 1764, 1800, 1836, 0, 1872, 0, 0, 0, 1908, 1944, 1980, 0, 0, 2016, 2052, 0, 2088, 0, 2124, 2160, 2196, 2232, 0, 2268, 2304, 0, 0, 2340, 2376, 2412, 2448, 0, 2484, 2520, 2556, 0, 2592, 2628, 2664, 2700, 2736, 2772, 2808, 2844, 2880]
def ivP : List Int := [0, 0, 0, 0, 0, 1, 1, 1, 1, 2, 2, 2, 2, 3, 3, 3, 3, 3, 3, 4, 4, 4, 4, 5, 5, 5, 5, 5, 5, 6, 6, 6, 6, 6, 6, 7, 7, 7, 7, 7, 7, 8, 8, 8, 8, 9, 9, 9, 9, 9, 9, 10, 10, 10, 10, 10, 10, 11, 11, 11, 11, 11, 11, 12, 12, 12, 12, 12, 12, 13, 13, 13, 13, 13, 13, 14, 14, 14, 14, 14, 14, 15, 15, 15, 15, 16, 16, 16, 16, 17, 17, 17, 17, 17, 17, 18, 18, 18, 18, 18, 18, 19, 19, 19, 19, 19, 19, 20, 20, 20, 20, 20, 20, 21, 21, 21, 21, 21, 21, 22, 22, 22, 22, 22, 22, 23, 23, 23, 23, 24, 24, 24, 24, 24, 24, 25, 25, 25, 25, 25, 25, 26, 26, 26, 26, 26, 26, 27, 27, 27, 27, 28, 28, 28, 28, 28, 28, 29, 29, 29, 29, 30, 30, 30, 30]
def ivL : List Int := [(-1), (-1), (-1), (-1), (-1), 0, 0, 0, 0, 1, 1, 1, 1, 0, 0, 0, 1, 1, 1, 2, 2, 2, 2, 0, 0, 0, 2, 2, 2, 1, 1, 1, 2, 2, 2, 0, 0, 1, 1, 2, 2, 3, 3, 3, 3, 0, 0, 0, 3, 3, 3, 1, 1, 1, 3, 3, 3, 0, 0, 1, 1, 3, 3, 2, 2, 2, 3, 3, 3, 0, 0, 2, 2, 3, 3, 1, 1, 2, 2, 3, 3, 0, 1, 2, 3, 4, 4, 4, 4, 0, 0, 0, 4, 4, 4, 1, 1, 1, 4, 4, 4, 0, 0, 1, 1, 4, 4, 2, 2, 2, 4, 4, 4, 0, 0, 2, 2, 4, 4, 1, 1, 2, 2, 4, 4, 0, 1, 2, 4, 3, 3, 3, 4, 4, 4, 0, 0, 3, 3, 4, 4, 1, 1, 3, 3, 4, 4, 0, 1, 3, 4, 2, 2, 3, 3, 4, 4, 0, 2, 3, 4, 1, 2, 3, 4]
def ivS : List Int := [0, 1, 2, 3, 4, 1, 2, 3, 4, 0, 2, 3, 4, 2, 3, 4, 2, 3, 4, 0, 1, 3, 4, 1, 3, 4, 1, 3, 4, 0, 3, 4, 0, 3, 4, 3, 4, 3, 4, 3, 4, 0, 1, 2, 4, 1, 2, 4, 1, 2, 4, 0, 2, 4, 0, 2, 4, 2, 4, 2, 4, 2, 4, 0, 1, 4, 0, 1, 4, 1, 4, 1, 4, 1, 4, 0, 4, 0, 4, 0, 4, 4, 4, 4, 4, 0, 1, 2, 3, 1, 2, 3, 1, 2, 3, 0, 2, 3, 0, 2, 3, 2, 3, 2, 3, 2, 3, 0, 1, 3, 0, 1, 3, 1, 3, 1, 3, 1, 3, 0, 3, 0, 3, 0, 3, 3, 3, 3, 3, 0, 1, 2, 0, 1, 2, 1, 2, 1, 2, 1, 2, 0, 2, 0, 2, 0, 2, 2, 2, 2, 2, 0, 1, 0, 1, 0, 1, 1, 1, 1, 1, 0, 0, 0, 0]
def ivA : List Int := [0, 1, 2, 3, 3, 4, 5, 5, 6, 6, 7, 7, 7, 8, 9, 9, 10, 10, 11, 11, 11, 12, 12, 13, 13, 13, 14, 14, 14, 15, 15, 15, 15, 16, 17, 17, 18, 18, 19, 19, 19, 20, 20, 21, 21, 21, 22, 22, 22, 23, 23, 23, 23, 24, 24, 25, 25, 25, 26, 26, 26, 27, 27, 27, 27, 28, 28, 28, 29, 29, 29, 29, 30, 30, 30, 30, 31, 31, 31, 31, 31]
def ivB : List Int := [(-1), 0, 1, 0, 1, 2, 0, 2, 1, 2, 0, 1, 2, 3, 0, 3, 1, 3, 0, 1, 3, 2, 3, 0, 2, 3, 1, 2, 3, 0, 1, 2, 3, 4, 0, 4, 1, 4, 0, 1, 4, 2, 4, 0, 2, 4, 1, 2, 4, 0, 1, 2, 4, 3, 4, 0, 3, 4, 1, 3, 4, 0, 1, 3, 4, 2, 3, 4, 0, 2, 3, 4, 1, 2, 3, 4, 0, 1, 2, 3, 4]
def gt (L : List Int) (i : Int) : Int := L.getD i.toNat 0
def nod (p l : Int) : Int := p * 5 + l + 1
/-- Steps' tables -/
def TBL (M : MM) : Prop := ∀ i : Int, 0 ≤ i → i < 161 → rd M 26 i = gt fsL i ∧ rd M 27 i = gt flL i ∧ rd M 28 i = gt fqL i
def NS (p l : Int) : Prop := (0 ≤ p ∧ p < 32) ∧ (-1 ≤ l ∧ l < 5) ∧ isStt p l
def lowr (p s : Int) : Int := iAnd (iXor p (-1)) ((iShl 1 s) - 1)
def stp0 (p l s : Int) : Int := gt fsL (nod p l) + pop (lowr p s)
theorem nod_rng {p l : Int} (h : NS p l) : 0 ≤ nod p l ∧ nod p l < 161 := by
  obtain ⟨hp, hl, hs⟩ := h
  unfold nod
  by_cases q : p = 31 ∧ l = 4
  · omega
  · omega
theorem dec_step : ∀ (i : Fin 32) (j : Fin 6) (k : Fin 5), (((j.val : Int) - 1 = -1 ∧ (i.val : Int) = 0) ∨ ((j.val : Int) - 1 ≠ -1 ∧ bt i.val ((j.val : Int) - 1) = 1)) → bt i.val k.val = 0 →
    0 ≤ stp0 i.val ((j.val : Int) - 1) k.val ∧ stp0 i.val ((j.val : Int) - 1) k.val < 165 ∧ gt ivP (stp0 i.val ((j.val : Int) - 1) k.val) = i.val ∧ gt ivL (stp0 i.val ((j.val : Int) - 1) k.val) = (j.val : Int) - 1 ∧ gt ivS (stp0 i.val ((j.val : Int) - 1) k.val) = k.val ∧ 0 ≤ lowr i.val k.val ∧ lowr i.val k.val < 32 := by decide +kernel
theorem step_ok {p l s : Int} (h : NS p l) (hs : 0 ≤ s ∧ s < 5) (hb : bt p s = 0) : 0 ≤ stp0 p l s ∧ stp0 p l s < 165 ∧ gt ivP (stp0 p l s) = p ∧ gt ivL (stp0 p l s) = l ∧ gt ivS (stp0 p l s) = s ∧ 0 ≤ lowr p s ∧ lowr p s < 32 := by
  obtain ⟨hp, hl, hi⟩ := h
  have := fin3 (P := fun p l1 s => ((l1 - 1 = -1 ∧ p = 0) ∨ (l1 - 1 ≠ -1 ∧ bt p (l1 - 1) = 1)) → bt p s = 0 → 0 ≤ stp0 p (l1 - 1) s ∧ stp0 p (l1 - 1) s < 165 ∧ gt ivP (stp0 p (l1 - 1) s) = p ∧ gt ivL (stp0 p (l1 - 1) s) = l1 - 1 ∧ gt ivS (stp0 p (l1 - 1) s) = s ∧ 0 ≤ lowr p s ∧ lowr p s < 32) 32 6 5 dec_step hp.1 hp.2 (show 0 ≤ l + 1 by omega) (by omega) hs.1 hs.2
  rw [show l + 1 - 1 = l by omega] at this
  exact this hi hb
theorem dec_node : ∀ (i : Fin 32) (j : Fin 6), (((j.val : Int) - 1 = -1 ∧ (i.val : Int) = 0) ∨ ((j.val : Int) - 1 ≠ -1 ∧ bt i.val ((j.val : Int) - 1) = 1)) →
    0 ≤ gt fqL (nod i.val ((j.val : Int) - 1)) ∧ gt fqL (nod i.val ((j.val : Int) - 1)) ≤ 2880 ∧ gt fqL (nod i.val ((j.val : Int) - 1)) % 36 = 0 ∧ gt ivA (gt fqL (nod i.val ((j.val : Int) - 1)) / 36) = i.val ∧ gt ivB (gt fqL (nod i.val ((j.val : Int) - 1)) / 36) = (j.val : Int) - 1 ∧ 0 ≤ gt flL (nod i.val ((j.val : Int) - 1)) ∧ gt flL (nod i.val ((j.val : Int) - 1)) + 36 * limF (pop i.val).toNat ≤ 18504 := by decide +kernel
theorem node_ok {p l : Int} (h : NS p l) : 0 ≤ gt fqL (nod p l) ∧ gt fqL (nod p l) ≤ 2880 ∧ gt fqL (nod p l) % 36 = 0 ∧ gt ivA (gt fqL (nod p l) / 36) = p ∧ gt ivB (gt fqL (nod p l) / 36) = l ∧ 0 ≤ gt flL (nod p l) ∧ gt flL (nod p l) + 36 * limF (pop p).toNat ≤ 18504 := by
  obtain ⟨hp, hl, hi⟩ := h
  have := fin2 (P := fun p l1 => ((l1 - 1 = -1 ∧ p = 0) ∨ (l1 - 1 ≠ -1 ∧ bt p (l1 - 1) = 1)) → 0 ≤ gt fqL (nod p (l1 - 1)) ∧ gt fqL (nod p (l1 - 1)) ≤ 2880 ∧ gt fqL (nod p (l1 - 1)) % 36 = 0 ∧ gt ivA (gt fqL (nod p (l1 - 1)) / 36) = p ∧ gt ivB (gt fqL (nod p (l1 - 1)) / 36) = l1 - 1 ∧ 0 ≤ gt flL (nod p (l1 - 1)) ∧ gt flL (nod p (l1 - 1)) + 36 * limF (pop p).toNat ≤ 18504) 32 6 dec_node hp.1 hp.2 (show 0 ≤ l + 1 by omega) (by omega)
  rw [show l + 1 - 1 = l by omega] at this
  exact this hi
/-- limbs of two nodes lie apart -/
theorem dec_apart : ∀ (i : Fin 81) (j : Fin 81), i ≠ j → gt flL (nod (gt ivA i.val) (gt ivB i.val)) + 36 * limF (pop (gt ivA i.val)).toNat ≤ gt flL (nod (gt ivA j.val) (gt ivB j.val)) ∨ gt flL (nod (gt ivA j.val) (gt ivB j.val)) + 36 * limF (pop (gt ivA j.val)).toNat ≤ gt flL (nod (gt ivA i.val) (gt ivB i.val)) := by decide +kernel
theorem limb_apart {p l p' l' : Int} (h : NS p l) (h' : NS p' l') (hne : ¬ (p = p' ∧ l = l')) : gt flL (nod p l) + 36 * limF (pop p).toNat ≤ gt flL (nod p' l') ∨ gt flL (nod p' l') + 36 * limF (pop p').toNat ≤ gt flL (nod p l) := by
  have a := node_ok h
  have b := node_ok h'
  have hi : gt fqL (nod p l) / 36 ≠ gt fqL (nod p' l') / 36 := by
    intro e
    exact hne ⟨a.2.2.2.1.symm.trans ((congrArg (gt ivA) e).trans b.2.2.2.1), a.2.2.2.2.1.symm.trans ((congrArg (gt ivB) e).trans b.2.2.2.2.1)⟩
  have := dec_apart ⟨(gt fqL (nod p l) / 36).toNat, by omega⟩ ⟨(gt fqL (nod p' l') / 36).toNat, by omega⟩ (fun e => hi (by have := congrArg Fin.val e; dsimp only at this; omega))
  dsimp only at this
  rw [show (((gt fqL (nod p l) / 36).toNat : Nat) : Int) = gt fqL (nod p l) / 36 by omega, show (((gt fqL (nod p' l') / 36).toNat : Nat) : Int) = gt fqL (nod p' l') / 36 by omega, a.2.2.2.1, a.2.2.2.2.1, b.2.2.2.1, b.2.2.2.2.1] at this
  exact this
/-! ===== contracts in the blocks' form ===== -/
def COK (M : MM) (r : Int → Int) (sm : Int → LSm) : Prop := HR M r ∧ RS r ∧ CLaws M r sm
def Fc0 (M : MM) : Int → Int := fun i => if 1 ≤ i ∧ i < 8 then rd M 23 (i - 1) else 0
def fill1 (M : MM) (a : Int) (kd : Nat) : Prop := okO M a kd ∧ 0 ≤ (mT M a).2 ∧ (mT M a).2 < 2147483648
theorem COK.fr {K : Int → Int → Prop} {M M' : MM} {r : Int → Int} {sm : Int → LSm} (h : COK M r sm) (hf : Fr K M M') (hK : ∀ a j, K a j → 13 ≤ a ∧ a < 94) : COK M' r sm :=
  ⟨h.1.fr (fun a j q => hf.2.2 a j (fun w => by have := hK a j w; unfold KH at q; omega)), h.2.1, h.2.2.frK hf (fun a j q => by have := hK a j q; omega)⟩
section WC
variable {G : GG} {d : Nat} {M : MM} {Q : PV → MM → Prop} {sm : Int → LSm} {r : Int → Int}
theorem T_X0_about {so sc be z o mi pl : Int} (hS : Sh M) (hso : inR so) (hd : 1 ≤ d) (h : ∀ M', (Fr KC M M' ∧ Fc0 M' = fcts so sc be (z + o) (if so = 0 then z else o) mi pl) → Sh M' → Q vU M') : C G Y_X0_about d 0 0 [vA 22, vI so, vI sc, vI be, vI z, vI o, vI mi, vI pl] M Q :=
  S_X0_about hS hso hd (fun M' f h' hs => h M' ⟨f, funext fun i => by
    unfold Fc0
    by_cases q : 1 ≤ i ∧ i < 8
    · rw [if_pos q]; exact hs i q.1 q.2
    · rw [if_neg q]; unfold fcts
      simp only [show i ≠ 1 by omega, show i ≠ 2 by omega, show i ≠ 3 by omega, show i ≠ 4 by omega, show i ≠ 5 by omega, show i ≠ 6 by omega, show i ≠ 7 by omega, if_false]⟩ h')
theorem T_X0_tells {hd' : Int} (hS : Sh M) (hC : COK M r sm) (hF : FR (Fc0 M)) (hh : hd' = 0 ∨ hd' = 1) (hd : 4 ≤ d) (h : ∀ v M', (Fr KB M M' ∧ v = askV r sm (Fc0 M) hd') → Sh M' → Q (vI v) M') : C G Y_X0_tells d 0 0 [vA 22, vI hd'] M Q :=
  S_X0_tells hS hC.1 hC.2.1 hC.2.2 (fun i i0 i1 => by unfold Fc0; rw [if_pos ⟨i0, i1⟩]) hF hh hd (fun M' f h' => h _ M' ⟨f, rfl⟩ h')
theorem T_fillI {a v : Int} (hS : Sh M) (ha : fill1 M a 20) (hd : 1 ≤ d) (h : ∀ M', (∃ len : Int, (mT M a).2 = len ∧ Ch M M' a 0 len.toNat ∧ ∀ i : Int, 0 ≤ i → i < len → rd M' a i = v) → Sh M' → Q vU M') : C G Y_J7_fill_53178 d 0 0 [vA a, vI v] M Q :=
  S_fillI ha.1 rfl ha.2 hd (fun M' c hv => h M' ⟨_, rfl, c, hv⟩ (hS.ch c (by rw [ha.1.2.2]; decide)))
theorem T_fillL {a v : Int} (hS : Sh M) (ha : fill1 M a 21) (hd : 1 ≤ d) (h : ∀ M', (∃ len : Int, (mT M a).2 = len ∧ Ch M M' a 0 len.toNat ∧ ∀ i : Int, 0 ≤ i → i < len → rd M' a i = v) → Sh M' → Q vU M') : C G Y_J7_fill_d0a16 d 0 0 [vA a, vL v] M Q :=
  S_fillL ha.1 rfl ha.2 hd (fun M' c hv => h M' ⟨_, rfl, c, hv⟩ (hS.ch c (by rw [ha.1.2.2]; decide)))
end WC
