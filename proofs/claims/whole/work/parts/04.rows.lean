/-! ===== rows without the memory ===== -/
section R1
variable {G : GG} {y : YY} {d k n pc pc2 pc3 : Nat} {xs xs' st st2 : List PV} {M : MM} {Q : PV → MM → Prop}
theorem X.same (h : ∀ {p : Program} {l : Launch} {e : Env} {R : Room} {s : State} {m : MethodId} {args : Array Value} {below : List Frame} {meth : Method} {c : Code} {H : Heap} {locs : List Loc} {cells slots : Nat} {Qm : State → Prop} {ls : Array Slot},
      Fx G y p s m args meth c → LV G ls y.2.2.1 xs → Rep G M s H → va_S (gR G) s.heap H locs → W p l e R s m args below meth c H locs cells slots Qm (F0 m pc2 ls (st2.map (tV G))) → W p l e R s m args below meth c H locs cells slots Qm (F0 m pc ls (st.map (tV G))))
    (kk : X G y d k n pc2 xs st2 M Q) : X G y d k n pc xs st M Q := by
  intro p l e s m args below meth c H locs cells slots mc ms ls hF hk hn hl hR hS
  exact h hF hl hR hS (kk p l e s m args below meth c H locs cells slots mc ms ls hF hk hn hl hR hS)
theorem X.two {cnd : Prop} (h : ∀ {p : Program} {l : Launch} {e : Env} {R : Room} {s : State} {m : MethodId} {args : Array Value} {below : List Frame} {meth : Method} {c : Code} {H : Heap} {locs : List Loc} {cells slots : Nat} {Qm : State → Prop} {ls : Array Slot},
      Fx G y p s m args meth c → (cnd → W p l e R s m args below meth c H locs cells slots Qm (F0 m pc2 ls (st2.map (tV G)))) → (¬ cnd → W p l e R s m args below meth c H locs cells slots Qm (F0 m pc3 ls (st2.map (tV G)))) → W p l e R s m args below meth c H locs cells slots Qm (F0 m pc ls (st.map (tV G))))
    (kk : (cnd → X G y d k n pc2 xs st2 M Q) ∧ (¬ cnd → X G y d k n pc3 xs st2 M Q)) : X G y d k n pc xs st M Q := by
  intro p l e s m args below meth c H locs cells slots mc ms ls hF hk hn hl hR hS
  exact h hF (fun q => kk.1 q p l e s m args below meth c H locs cells slots mc ms ls hF hk hn hl hR hS) (fun q => kk.2 q p l e s m args below meth c H locs cells slots mc ms ls hF hk hn hl hR hS)
theorem X.store {x : PV} {i : Nat} (h : ∀ {p : Program} {l : Launch} {e : Env} {R : Room} {s : State} {m : MethodId} {args : Array Value} {below : List Frame} {meth : Method} {c : Code} {H : Heap} {locs : List Loc} {cells slots : Nat} {Qm : State → Prop} {ls : Array Slot},
      Fx G y p s m args meth c → LV G ls y.2.2.1 xs → (∀ ls' : Array Slot, lv_has ls' y.2.2.1 ((i, tV G x) :: (prs G 0 xs).filter (fun q => !(q.1 == i) && !(q.1 + 1 == i && q.2.category == 2))) → W p l e R s m args below meth c H locs cells slots Qm (F0 m pc2 ls' (st2.map (tV G)))) → W p l e R s m args below meth c H locs cells slots Qm (F0 m pc ls (st.map (tV G))))
    (hx : stx xs i x = xs') (kk : X G y d k n pc2 xs' st2 M Q) : X G y d k n pc xs st M Q := by
  subst hx
  intro p l e s m args below meth c H locs cells slots mc ms ls hF hk hn hl hR hS
  exact h hF hl (fun ls' hl' => kk p l e s m args below meth c H locs cells slots mc ms ls' hF hk hn (LV.st1 hl') hR hS)
theorem X.store2 {x : PV} {i : Nat} (h : ∀ {p : Program} {l : Launch} {e : Env} {R : Room} {s : State} {m : MethodId} {args : Array Value} {below : List Frame} {meth : Method} {c : Code} {H : Heap} {locs : List Loc} {cells slots : Nat} {Qm : State → Prop} {ls : Array Slot},
      Fx G y p s m args meth c → LV G ls y.2.2.1 xs → (∀ ls' : Array Slot, lv_has ls' y.2.2.1 ((i, tV G x) :: (prs G 0 xs).filter (fun q => !(q.1 == i) && (!(q.1 == i + 1) && !(q.1 + 1 == i && q.2.category == 2)))) → W p l e R s m args below meth c H locs cells slots Qm (F0 m pc2 ls' (st2.map (tV G)))) → W p l e R s m args below meth c H locs cells slots Qm (F0 m pc ls (st.map (tV G))))
    (hx : stx (stx xs (i + 1) vU) i x = xs') (kk : X G y d k n pc2 xs' st2 M Q) : X G y d k n pc xs st M Q := by
  subst hx
  intro p l e s m args below meth c H locs cells slots mc ms ls hF hk hn hl hR hS
  exact h hF hl (fun ls' hl' => kk p l e s m args below meth c H locs cells slots mc ms ls' hF hk hn (LV.st2 hl') hR hS)
theorem i8_eq {v : Int} (h1 : -128 ≤ v) (h2 : v < 128) : (Int8.ofInt v).toInt32 = Int32.ofInt v := by
  apply Int32.toInt_inj.mp
  rw [inR_to ⟨by omega, by omega⟩, Int8.toInt_toInt32, Int8.toInt_ofInt, show Int8.size = 256 from rfl]
  exact Int.bmod_eq_of_le (by omega) (by omega)
theorem i16_eq {v : Int} (h1 : -32768 ≤ v) (h2 : v < 32768) : (Int16.ofInt v).toInt32 = Int32.ofInt v := by
  apply Int32.toInt_inj.mp
  rw [inR_to ⟨by omega, by omega⟩, Int16.toInt_toInt32, Int16.toInt_ofInt, show Int16.size = 65536 from rfl]
  exact Int.bmod_eq_of_le (by omega) (by omega)
theorem x_iconst {v : Int} (hd : decode y.2.1 pc = .ok (.iconst v, 1)) (kk : X G y d k n (pc + 1) xs (vI v :: st) M Q) : X G y d k n pc xs st M Q := X.same (fun hF _ _ _ w => lv_iconst hF.1 hF.2.1 hd rfl w) kk
theorem x_bipush {v : Int} (hd : decode y.2.1 pc = .ok (.bipush v, 2)) (h1 : -128 ≤ v) (h2 : v < 128) (kk : X G y d k n (pc + 2) xs (vI v :: st) M Q) : X G y d k n pc xs st M Q := X.same (fun hF _ _ _ w => lv_bipush hF.1 hF.2.1 hd (i8_eq h1 h2) w) kk
theorem x_sipush {v : Int} (hd : decode y.2.1 pc = .ok (.sipush v, 3)) (h1 : -32768 ≤ v) (h2 : v < 32768) (kk : X G y d k n (pc + 3) xs (vI v :: st) M Q) : X G y d k n pc xs st M Q := X.same (fun hF _ _ _ w => lv_sipush hF.1 hF.2.1 hd (i16_eq h1 h2) w) kk
theorem x_lconst {v : Fin 2} {a : Int} (hd : decode y.2.1 pc = .ok (.lconst v, 1)) (ha : Int64.ofNat (v : Nat) = Int64.ofInt a) (kk : X G y d k n (pc + 1) xs (vL a :: st) M Q) : X G y d k n pc xs st M Q := X.same (fun hF _ _ _ w => lv_lconst hF.1 hF.2.1 hd ha w) kk
theorem x_ldc {i : Nat} {v : Int32} {a : Int} (hd : decode y.2.1 pc = .ok (.ldc i, 2)) (hw : Cond.constant y.1.cls i v ∈ lw_g) (ha : v = Int32.ofInt a) (kk : X G y d k n (pc + 2) xs (vI a :: st) M Q) : X G y d k n pc xs st M Q := by
  subst ha
  exact X.same (fun hF _ _ _ w => lv_ldc hF.1 hF.2.1 hF.2.2.2.2.1 (hF.2.2.2.2.2.1 _ hw) hd w) kk
theorem x_ldc2 {i : Nat} {v : Int64} {a : Int} (hd : decode y.2.1 pc = .ok (.ldc2_w i, 3)) (hw : Cond.constantLong y.1.cls i v ∈ lw_g) (ha : v = Int64.ofInt a) (kk : X G y d k n (pc + 3) xs (vL a :: st) M Q) : X G y d k n pc xs st M Q := by
  subst ha
  exact X.same (fun hF _ _ _ w => lv_ldc2 hF.1 hF.2.1 hF.2.2.2.2.1 (hF.2.2.2.2.2.1 _ hw) hd w) kk
theorem x_null (hd : decode y.2.1 pc = .ok (.aconst_null, 1)) (kk : X G y d k n (pc + 1) xs (vA (-1) :: st) M Q) : X G y d k n pc xs st M Q := X.same (fun hF _ _ _ w => lv_null hF.1 hF.2.1 hd w) kk
theorem x_iload_n {i : Fin 4} {a : Int} (hd : decode y.2.1 pc = .ok (.iload_n i, 1)) (hx : xs[(i : Nat)]? = some (vI a)) (kk : X G y d k n (pc + 1) xs (vI a :: st) M Q) : X G y d k n pc xs st M Q := X.same (fun hF hl _ _ w => lv_iload_n hF.1 hF.2.1 hd rfl (hl.at hx rfl) w) kk
theorem x_iload {i : Nat} {a : Int} (hd : decode y.2.1 pc = .ok (.iload i, 2)) (hx : xs[i]? = some (vI a)) (kk : X G y d k n (pc + 2) xs (vI a :: st) M Q) : X G y d k n pc xs st M Q := X.same (fun hF hl _ _ w => lv_iload hF.1 hF.2.1 hd (hl.at hx rfl) w) kk
theorem x_lload_n {i : Fin 4} {a : Int} (hd : decode y.2.1 pc = .ok (.lload_n i, 1)) (hx : xs[(i : Nat)]? = some (vL a)) (kk : X G y d k n (pc + 1) xs (vL a :: st) M Q) : X G y d k n pc xs st M Q := X.same (fun hF hl _ _ w => lv_lload_n hF.1 hF.2.1 hd rfl (hl.at hx rfl) w) kk
theorem x_lload {i : Nat} {a : Int} (hd : decode y.2.1 pc = .ok (.lload i, 2)) (hx : xs[i]? = some (vL a)) (kk : X G y d k n (pc + 2) xs (vL a :: st) M Q) : X G y d k n pc xs st M Q := X.same (fun hF hl _ _ w => lv_lload hF.1 hF.2.1 hd (hl.at hx rfl) w) kk
theorem x_aload_n {i : Fin 4} {a : Int} (hd : decode y.2.1 pc = .ok (.aload_n i, 1)) (hx : xs[(i : Nat)]? = some (vA a)) (kk : X G y d k n (pc + 1) xs (vA a :: st) M Q) : X G y d k n pc xs st M Q := X.same (fun hF hl _ _ w => by
  have h1 := hl.at hx rfl
  simp only [List.map_cons, tV, rfV] at h1 w
  split at h1
  · rename_i h; rw [if_pos h] at w; exact lv_aload_nN hF.1 hF.2.1 hd rfl h1 w
  · rename_i h; rw [if_neg h] at w; exact lv_aload_n hF.1 hF.2.1 hd rfl h1 w) kk
theorem x_aload {i : Nat} {a : Int} (hd : decode y.2.1 pc = .ok (.aload i, 2)) (hx : xs[i]? = some (vA a)) (kk : X G y d k n (pc + 2) xs (vA a :: st) M Q) : X G y d k n pc xs st M Q := X.same (fun hF hl _ _ w => by
  have h1 := hl.at hx rfl
  simp only [List.map_cons, tV, rfV] at h1 w
  split at h1
  · rename_i h; rw [if_pos h] at w; exact lv_aloadN hF.1 hF.2.1 hd h1 w
  · rename_i h; rw [if_neg h] at w; exact lv_aload hF.1 hF.2.1 hd h1 w) kk
theorem x_istore_n {i : Fin 4} {a : Int} (hd : decode y.2.1 pc = .ok (.istore_n i, 1)) (hi : (i : Nat) < y.2.2.1) (hx : stx xs (i : Nat) (vI a) = xs') (kk : X G y d k n (pc + 1) xs' st M Q) : X G y d k n pc xs (vI a :: st) M Q :=
  X.store (fun hF hl w => lv_istore_n hF.1 hF.2.1 hd rfl hl hi rfl w) hx kk
theorem x_istore {i : Nat} {a : Int} (hd : decode y.2.1 pc = .ok (.istore i, 2)) (hi : i < y.2.2.1) (hx : stx xs i (vI a) = xs') (kk : X G y d k n (pc + 2) xs' st M Q) : X G y d k n pc xs (vI a :: st) M Q :=
  X.store (fun hF hl w => lv_istore hF.1 hF.2.1 hd hl hi rfl w) hx kk
theorem x_astore_n {i : Fin 4} {a : Int} (hd : decode y.2.1 pc = .ok (.astore_n i, 1)) (hi : (i : Nat) < y.2.2.1) (hx : stx xs (i : Nat) (vA a) = xs') (kk : X G y d k n (pc + 1) xs' st M Q) : X G y d k n pc xs (vA a :: st) M Q :=
  X.store (fun hF hl w => by
    simp only [List.map_cons, tV, rfV] at w ⊢
    by_cases h : a = -1
    · rw [if_pos h] at w ⊢; exact lv_astore_nN hF.1 hF.2.1 hd rfl hl hi rfl w
    · rw [if_neg h] at w ⊢; exact lv_astore_n hF.1 hF.2.1 hd rfl hl hi rfl w) hx kk
theorem x_astore {i : Nat} {a : Int} (hd : decode y.2.1 pc = .ok (.astore i, 2)) (hi : i < y.2.2.1) (hx : stx xs i (vA a) = xs') (kk : X G y d k n (pc + 2) xs' st M Q) : X G y d k n pc xs (vA a :: st) M Q :=
  X.store (fun hF hl w => by
    simp only [List.map_cons, tV, rfV] at w ⊢
    by_cases h : a = -1
    · rw [if_pos h] at w ⊢; exact lv_astoreN hF.1 hF.2.1 hd hl hi rfl w
    · rw [if_neg h] at w ⊢; exact lv_astore hF.1 hF.2.1 hd hl hi rfl w) hx kk
theorem x_lstore_n {i : Fin 4} {a : Int} (hd : decode y.2.1 pc = .ok (.lstore_n i, 1)) (hi : (i : Nat) + 1 < y.2.2.1) (hx : stx (stx xs ((i : Nat) + 1) vU) (i : Nat) (vL a) = xs') (kk : X G y d k n (pc + 1) xs' st M Q) : X G y d k n pc xs (vL a :: st) M Q :=
  X.store2 (fun hF hl w => lv_lstore_n hF.1 hF.2.1 hd rfl hl hi rfl w) hx kk
theorem x_lstore {i : Nat} {a : Int} (hd : decode y.2.1 pc = .ok (.lstore i, 2)) (hi : i + 1 < y.2.2.1) (hx : stx (stx xs (i + 1) vU) i (vL a) = xs') (kk : X G y d k n (pc + 2) xs' st M Q) : X G y d k n pc xs (vL a :: st) M Q :=
  X.store2 (fun hF hl w => lv_lstore hF.1 hF.2.1 hd hl hi rfl w) hx kk
theorem prs_ix (G : GG) : ∀ (xs : List PV) (i k : Nat) (x : PV), xs[i]? = some x → isU x = false → ∃ q : Nat, (prs G k xs)[q]? = some (k + i, tV G x) := fun xs i k x h hu => List.getElem?_of_mem (prs_mem G xs i k x h hu)
theorem x_iinc {i : Nat} {v a : Int} (hd : decode y.2.1 pc = .ok (.iinc i v, 3)) (ha : xs[i]? = some (vI a)) (hi : i < y.2.2.1) (hx : stx xs i (vI (a + v)) = xs') (kk : X G y d k n (pc + 3) xs' st M Q) : X G y d k n pc xs st M Q := by
  obtain ⟨q, hq⟩ := prs_ix G xs i 0 _ ha rfl
  rw [Nat.zero_add] at hq
  exact X.store (x := vI (a + v)) (i := i) (fun hF hl w => lv_iinc (x := Int32.ofInt a) hF.1 hF.2.1 hd hl hq (Int32.ofInt_add (a := a) (b := v)).symm hi rfl w) hx kk
theorem x_iadd {a b : Int} (hd : decode y.2.1 pc = .ok (.iadd, 1)) (kk : X G y d k n (pc + 1) xs (vI (a + b) :: st) M Q) : X G y d k n pc xs (vI b :: vI a :: st) M Q := X.same (fun hF _ _ _ w => lv_iadd hF.1 hF.2.1 hd (by rw [← Int32.ofInt_add]; exact w)) kk
theorem x_isub {a b : Int} (hd : decode y.2.1 pc = .ok (.isub, 1)) (kk : X G y d k n (pc + 1) xs (vI (a - b) :: st) M Q) : X G y d k n pc xs (vI b :: vI a :: st) M Q := X.same (fun hF _ _ _ w => lv_isub hF.1 hF.2.1 hd (by rw [← Int32.ofInt_sub]; exact w)) kk
theorem x_imul {a b : Int} (hd : decode y.2.1 pc = .ok (.imul, 1)) (kk : X G y d k n (pc + 1) xs (vI (a * b) :: st) M Q) : X G y d k n pc xs (vI b :: vI a :: st) M Q := X.same (fun hF _ _ _ w => lv_imul hF.1 hF.2.1 hd (by rw [← Int32.ofInt_mul]; exact w)) kk
theorem x_ineg {a : Int} (hd : decode y.2.1 pc = .ok (.ineg, 1)) (kk : X G y d k n (pc + 1) xs (vI (-a) :: st) M Q) : X G y d k n pc xs (vI a :: st) M Q := X.same (fun hF _ _ _ w => lv_ineg hF.1 hF.2.1 hd (by rw [← Int32.ofInt_neg]; exact w)) kk
def iAnd (a b : Int) : Int := (Int32.ofInt a &&& Int32.ofInt b).toInt
def iOr (a b : Int) : Int := (Int32.ofInt a ||| Int32.ofInt b).toInt
def iXor (a b : Int) : Int := (Int32.ofInt a ^^^ Int32.ofInt b).toInt
def iShl (a b : Int) : Int := (Int32.ofInt a <<< (Int32.ofInt b &&& 31)).toInt
def iShr (a b : Int) : Int := (Int32.ofInt a >>> (Int32.ofInt b &&& 31)).toInt
def iUshr (a b : Int) : Int := (((Int32.ofInt a).toUInt32 >>> ((Int32.ofInt b).toUInt32 &&& Int32.toUInt32 31)).toInt32).toInt
theorem x_iand {a b : Int} (hd : decode y.2.1 pc = .ok (.iand, 1)) (kk : X G y d k n (pc + 1) xs (vI (iAnd a b) :: st) M Q) : X G y d k n pc xs (vI b :: vI a :: st) M Q := X.same (fun hF _ _ _ w => lv_iand hF.1 hF.2.1 hd (by simp only [List.map_cons, tV, iAnd, Int32.ofInt_toInt] at w; exact w)) kk
theorem x_ior {a b : Int} (hd : decode y.2.1 pc = .ok (.ior, 1)) (kk : X G y d k n (pc + 1) xs (vI (iOr a b) :: st) M Q) : X G y d k n pc xs (vI b :: vI a :: st) M Q := X.same (fun hF _ _ _ w => lv_ior hF.1 hF.2.1 hd (by simp only [List.map_cons, tV, iOr, Int32.ofInt_toInt] at w; exact w)) kk
theorem x_ixor {a b : Int} (hd : decode y.2.1 pc = .ok (.ixor, 1)) (kk : X G y d k n (pc + 1) xs (vI (iXor a b) :: st) M Q) : X G y d k n pc xs (vI b :: vI a :: st) M Q := X.same (fun hF _ _ _ w => lv_ixor hF.1 hF.2.1 hd (by simp only [List.map_cons, tV, iXor, Int32.ofInt_toInt] at w; exact w)) kk
theorem x_ishl {a b : Int} (hd : decode y.2.1 pc = .ok (.ishl, 1)) (kk : X G y d k n (pc + 1) xs (vI (iShl a b) :: st) M Q) : X G y d k n pc xs (vI b :: vI a :: st) M Q := X.same (fun hF _ _ _ w => lv_ishl hF.1 hF.2.1 hd (by simp only [List.map_cons, tV, iShl, Int32.ofInt_toInt] at w; exact w)) kk
theorem x_ishr {a b : Int} (hd : decode y.2.1 pc = .ok (.ishr, 1)) (kk : X G y d k n (pc + 1) xs (vI (iShr a b) :: st) M Q) : X G y d k n pc xs (vI b :: vI a :: st) M Q := X.same (fun hF _ _ _ w => lv_ishr hF.1 hF.2.1 hd (by simp only [List.map_cons, tV, iShr, Int32.ofInt_toInt] at w; exact w)) kk
theorem x_iushr {a b : Int} (hd : decode y.2.1 pc = .ok (.iushr, 1)) (kk : X G y d k n (pc + 1) xs (vI (iUshr a b) :: st) M Q) : X G y d k n pc xs (vI b :: vI a :: st) M Q := X.same (fun hF _ _ _ w => lv_iushr (v := Int32.ofInt (iUshr a b)) hF.1 hF.2.1 hd (by rw [iUshr, Int32.ofInt_toInt]) w) kk
theorem ne0_32 {b : Int} (hb : inR b) (h : b ≠ 0) : ¬ Int32.ofInt b = 0 := fun q => h (by rw [← inR_to hb, q]; rfl)
theorem ne0_64 {b : Int} (hb : inL b) (h : b ≠ 0) : ¬ Int64.ofInt b = 0 := fun q => h (by rw [← inL_to hb, q]; rfl)
theorem div_32 {a b : Int} (ha : inR a) (hb : inR b) : Int32.ofInt a / Int32.ofInt b = Int32.ofInt (a.tdiv b) := by
  apply Int32.toInt_inj.mp
  rw [Int32.toInt_div, inR_to ha, inR_to hb, Int32.toInt_ofInt]
theorem div_64 {a b : Int} (ha : inL a) (hb : inL b) : Int64.ofInt a / Int64.ofInt b = Int64.ofInt (a.tdiv b) := by
  apply Int64.toInt_inj.mp
  rw [Int64.toInt_div, inL_to ha, inL_to hb, Int64.toInt_ofInt]
theorem tmod_def' (a b : Int) : a.tmod b = a - a.tdiv b * b := by rw [Int.tmod_def, Int.mul_comm]
theorem x_idiv {a b : Int} (hd : decode y.2.1 pc = .ok (.idiv, 1)) (ha : inR a) (hb : inR b) (h0 : b ≠ 0) (kk : X G y d k n (pc + 1) xs (vI (a.tdiv b) :: st) M Q) : X G y d k n pc xs (vI b :: vI a :: st) M Q :=
  X.same (fun hF _ _ _ w => lv_idiv hF.1 hF.2.1 hd (ne0_32 hb h0) (by rw [div_32 ha hb]; exact w)) kk
theorem x_irem {a b : Int} (hd : decode y.2.1 pc = .ok (.irem, 1)) (ha : inR a) (hb : inR b) (h0 : b ≠ 0) (kk : X G y d k n (pc + 1) xs (vI (a.tmod b) :: st) M Q) : X G y d k n pc xs (vI b :: vI a :: st) M Q :=
  X.same (fun hF _ _ _ w => lv_irem hF.1 hF.2.1 hd (ne0_32 hb h0) (by rw [div_32 ha hb, ← Int32.ofInt_mul, ← Int32.ofInt_sub, ← tmod_def']; exact w)) kk
theorem x_ladd {a b : Int} (hd : decode y.2.1 pc = .ok (.ladd, 1)) (kk : X G y d k n (pc + 1) xs (vL (a + b) :: st) M Q) : X G y d k n pc xs (vL b :: vL a :: st) M Q := X.same (fun hF _ _ _ w => lv_ladd hF.1 hF.2.1 hd (by rw [← Int64.ofInt_add]; exact w)) kk
theorem x_lsub {a b : Int} (hd : decode y.2.1 pc = .ok (.lsub, 1)) (kk : X G y d k n (pc + 1) xs (vL (a - b) :: st) M Q) : X G y d k n pc xs (vL b :: vL a :: st) M Q := X.same (fun hF _ _ _ w => lv_lsub hF.1 hF.2.1 hd (by rw [← Int64.ofInt_sub]; exact w)) kk
theorem x_lmul {a b : Int} (hd : decode y.2.1 pc = .ok (.lmul, 1)) (kk : X G y d k n (pc + 1) xs (vL (a * b) :: st) M Q) : X G y d k n pc xs (vL b :: vL a :: st) M Q := X.same (fun hF _ _ _ w => lv_lmul hF.1 hF.2.1 hd (by rw [← Int64.ofInt_mul]; exact w)) kk
theorem x_ldiv {a b : Int} (hd : decode y.2.1 pc = .ok (.ldiv, 1)) (ha : inL a) (hb : inL b) (h0 : b ≠ 0) (kk : X G y d k n (pc + 1) xs (vL (a.tdiv b) :: st) M Q) : X G y d k n pc xs (vL b :: vL a :: st) M Q :=
  X.same (fun hF _ _ _ w => lv_ldiv hF.1 hF.2.1 hd (ne0_64 hb h0) (by rw [div_64 ha hb]; exact w)) kk
theorem x_lrem {a b : Int} (hd : decode y.2.1 pc = .ok (.lrem, 1)) (ha : inL a) (hb : inL b) (h0 : b ≠ 0) (kk : X G y d k n (pc + 1) xs (vL (a.tmod b) :: st) M Q) : X G y d k n pc xs (vL b :: vL a :: st) M Q :=
  X.same (fun hF _ _ _ w => lv_lrem hF.1 hF.2.1 hd (ne0_64 hb h0) (by rw [div_64 ha hb, ← Int64.ofInt_mul, ← Int64.ofInt_sub, ← tmod_def']; exact w)) kk
theorem x_i2l {a : Int} (hd : decode y.2.1 pc = .ok (.i2l, 1)) (ha : inR a) (kk : X G y d k n (pc + 1) xs (vL a :: st) M Q) : X G y d k n pc xs (vI a :: st) M Q :=
  X.same (fun hF _ _ _ w => lv_i2l hF.1 hF.2.1 hd (by
    apply Int64.toInt_inj.mp
    rw [Int32.toInt_toInt64, inR_to ha, inL_to ⟨by have := ha.1; omega, by have := ha.2; omega⟩]) w) kk
theorem x_l2i {a : Int} (hd : decode y.2.1 pc = .ok (.l2i, 1)) (kk : X G y d k n (pc + 1) xs (vI a :: st) M Q) : X G y d k n pc xs (vL a :: st) M Q :=
  X.same (fun hF _ _ _ w => lv_l2i hF.1 hF.2.1 hd (by
    apply Int32.toInt_inj.mp
    rw [Int64.toInt_toInt32, Int64.toInt_ofInt, Int32.toInt_ofInt, show Int64.size = 18446744073709551616 from rfl, show Int32.size = 4294967296 from rfl]
    exact Int.bmod_bmod_of_dvd (by decide)) w) kk
theorem cat1_I (G : GG) (a : Int) : (tV G (vI a)).category = 1 := rfl
theorem x_dup {x : PV} (hd : decode y.2.1 pc = .ok (.dup, 1)) (hL : isL x = false) (kk : X G y d k n (pc + 1) xs (x :: x :: st) M Q) : X G y d k n pc xs (x :: st) M Q := X.same (fun hF _ _ _ w => lv_dup hF.1 hF.2.1 hd (by rw [tV_cat, hL]; rfl) w) kk
theorem x_pop {x : PV} (hd : decode y.2.1 pc = .ok (.pop, 1)) (hL : isL x = false) (kk : X G y d k n (pc + 1) xs st M Q) : X G y d k n pc xs (x :: st) M Q := X.same (fun hF _ _ _ w => lv_pop hF.1 hF.2.1 hd (by rw [tV_cat, hL]; rfl) w) kk
theorem x_dup2 {x z : PV} (hd : decode y.2.1 pc = .ok (.dup2, 1)) (hL : isL x = false) (hZ : isL z = false) (kk : X G y d k n (pc + 1) xs (x :: z :: x :: z :: st) M Q) : X G y d k n pc xs (x :: z :: st) M Q := X.same (fun hF _ _ _ w => lv_dup2_11 hF.1 hF.2.1 hd (by rw [tV_cat, hL]; rfl) (by rw [tV_cat, hZ]; rfl) w) kk
theorem x_goto {off : Int} {tgt : Nat} (hd : decode y.2.1 pc = .ok (.goto off, 3)) (ht : (pc : Int) + off = (tgt : Int)) (kk : X G y d k n tgt xs st M Q) : X G y d k n pc xs st M Q := X.same (fun hF _ _ _ w => lv_goto hF.1 hF.2.1 hd ht w) kk
theorem lt_32 {a b : Int} (ha : inR a) (hb : inR b) : Int32.ofInt a < Int32.ofInt b ↔ a < b := by rw [Int32.lt_iff_toInt_lt, inR_to ha, inR_to hb]
theorem le_32 {a b : Int} (ha : inR a) (hb : inR b) : Int32.ofInt a ≤ Int32.ofInt b ↔ a ≤ b := by rw [Int32.le_iff_toInt_le, inR_to ha, inR_to hb]
theorem eq_32 {a b : Int} (ha : inR a) (hb : inR b) : Int32.ofInt a = Int32.ofInt b ↔ a = b := ⟨fun h => by rw [← inR_to ha, h, inR_to hb], fun h => by rw [h]⟩
theorem inR_0 : inR 0 := ⟨by decide, by decide⟩
theorem x_icmp_eq {a b : Int} {off : Int} {tgt : Nat} (hd : decode y.2.1 pc = .ok (.if_icmp .eq off, 3)) (ht : (pc : Int) + off = (tgt : Int)) (ha : inR a) (hb : inR b) (kk : (a = b → X G y d k n tgt xs st M Q) ∧ (¬ (a = b) → X G y d k n (pc + 3) xs st M Q)) : X G y d k n pc xs (vI b :: vI a :: st) M Q := X.two (fun hF w1 w2 => lv_icmp_eq hF.1 hF.2.1 hd ht (fun q => w1 ((eq_32 ha hb).mp q)) (fun q => w2 (fun z => q ((eq_32 ha hb).mpr z)))) kk
theorem x_if_eq {a : Int} {off : Int} {tgt : Nat} (hd : decode y.2.1 pc = .ok (.ifCond .eq off, 3)) (ht : (pc : Int) + off = (tgt : Int)) (ha : inR a) (kk : (a = 0 → X G y d k n tgt xs st M Q) ∧ (¬ (a = 0) → X G y d k n (pc + 3) xs st M Q)) : X G y d k n pc xs (vI a :: st) M Q := X.two (fun hF w1 w2 => lv_if_eq hF.1 hF.2.1 hd ht (fun q => w1 ((eq_32 ha inR_0).mp q)) (fun q => w2 (fun z => q ((eq_32 ha inR_0).mpr z)))) kk
theorem x_icmp_ne {a b : Int} {off : Int} {tgt : Nat} (hd : decode y.2.1 pc = .ok (.if_icmp .ne off, 3)) (ht : (pc : Int) + off = (tgt : Int)) (ha : inR a) (hb : inR b) (kk : (a ≠ b → X G y d k n tgt xs st M Q) ∧ (¬ (a ≠ b) → X G y d k n (pc + 3) xs st M Q)) : X G y d k n pc xs (vI b :: vI a :: st) M Q := X.two (fun hF w1 w2 => lv_icmp_ne hF.1 hF.2.1 hd ht (fun q => w1 (fun z => q ((eq_32 ha hb).mpr z))) (fun q => w2 (fun z => z ((eq_32 ha hb).mp q)))) kk
theorem x_if_ne {a : Int} {off : Int} {tgt : Nat} (hd : decode y.2.1 pc = .ok (.ifCond .ne off, 3)) (ht : (pc : Int) + off = (tgt : Int)) (ha : inR a) (kk : (a ≠ 0 → X G y d k n tgt xs st M Q) ∧ (¬ (a ≠ 0) → X G y d k n (pc + 3) xs st M Q)) : X G y d k n pc xs (vI a :: st) M Q := X.two (fun hF w1 w2 => lv_if_ne hF.1 hF.2.1 hd ht (fun q => w1 (fun z => q ((eq_32 ha inR_0).mpr z))) (fun q => w2 (fun z => z ((eq_32 ha inR_0).mp q)))) kk
theorem x_icmp_lt {a b : Int} {off : Int} {tgt : Nat} (hd : decode y.2.1 pc = .ok (.if_icmp .lt off, 3)) (ht : (pc : Int) + off = (tgt : Int)) (ha : inR a) (hb : inR b) (kk : (a < b → X G y d k n tgt xs st M Q) ∧ (¬ (a < b) → X G y d k n (pc + 3) xs st M Q)) : X G y d k n pc xs (vI b :: vI a :: st) M Q := X.two (fun hF w1 w2 => lv_icmp_lt hF.1 hF.2.1 hd ht (fun q => w1 ((lt_32 ha hb).mp q)) (fun q => w2 (fun z => q ((lt_32 ha hb).mpr z)))) kk
theorem x_if_lt {a : Int} {off : Int} {tgt : Nat} (hd : decode y.2.1 pc = .ok (.ifCond .lt off, 3)) (ht : (pc : Int) + off = (tgt : Int)) (ha : inR a) (kk : (a < 0 → X G y d k n tgt xs st M Q) ∧ (¬ (a < 0) → X G y d k n (pc + 3) xs st M Q)) : X G y d k n pc xs (vI a :: st) M Q := X.two (fun hF w1 w2 => lv_if_lt hF.1 hF.2.1 hd ht (fun q => w1 ((lt_32 ha inR_0).mp q)) (fun q => w2 (fun z => q ((lt_32 ha inR_0).mpr z)))) kk
theorem x_icmp_ge {a b : Int} {off : Int} {tgt : Nat} (hd : decode y.2.1 pc = .ok (.if_icmp .ge off, 3)) (ht : (pc : Int) + off = (tgt : Int)) (ha : inR a) (hb : inR b) (kk : (b ≤ a → X G y d k n tgt xs st M Q) ∧ (¬ (b ≤ a) → X G y d k n (pc + 3) xs st M Q)) : X G y d k n pc xs (vI b :: vI a :: st) M Q := X.two (fun hF w1 w2 => lv_icmp_ge hF.1 hF.2.1 hd ht (fun q => w1 ((le_32 hb ha).mp q)) (fun q => w2 (fun z => q ((le_32 hb ha).mpr z)))) kk
theorem x_if_ge {a : Int} {off : Int} {tgt : Nat} (hd : decode y.2.1 pc = .ok (.ifCond .ge off, 3)) (ht : (pc : Int) + off = (tgt : Int)) (ha : inR a) (kk : (0 ≤ a → X G y d k n tgt xs st M Q) ∧ (¬ (0 ≤ a) → X G y d k n (pc + 3) xs st M Q)) : X G y d k n pc xs (vI a :: st) M Q := X.two (fun hF w1 w2 => lv_if_ge hF.1 hF.2.1 hd ht (fun q => w1 ((le_32 inR_0 ha).mp q)) (fun q => w2 (fun z => q ((le_32 inR_0 ha).mpr z)))) kk
theorem x_icmp_gt {a b : Int} {off : Int} {tgt : Nat} (hd : decode y.2.1 pc = .ok (.if_icmp .gt off, 3)) (ht : (pc : Int) + off = (tgt : Int)) (ha : inR a) (hb : inR b) (kk : (b < a → X G y d k n tgt xs st M Q) ∧ (¬ (b < a) → X G y d k n (pc + 3) xs st M Q)) : X G y d k n pc xs (vI b :: vI a :: st) M Q := X.two (fun hF w1 w2 => lv_icmp_gt hF.1 hF.2.1 hd ht (fun q => w1 ((lt_32 hb ha).mp q)) (fun q => w2 (fun z => q ((lt_32 hb ha).mpr z)))) kk
theorem x_if_gt {a : Int} {off : Int} {tgt : Nat} (hd : decode y.2.1 pc = .ok (.ifCond .gt off, 3)) (ht : (pc : Int) + off = (tgt : Int)) (ha : inR a) (kk : (0 < a → X G y d k n tgt xs st M Q) ∧ (¬ (0 < a) → X G y d k n (pc + 3) xs st M Q)) : X G y d k n pc xs (vI a :: st) M Q := X.two (fun hF w1 w2 => lv_if_gt hF.1 hF.2.1 hd ht (fun q => w1 ((lt_32 inR_0 ha).mp q)) (fun q => w2 (fun z => q ((lt_32 inR_0 ha).mpr z)))) kk
theorem x_icmp_le {a b : Int} {off : Int} {tgt : Nat} (hd : decode y.2.1 pc = .ok (.if_icmp .le off, 3)) (ht : (pc : Int) + off = (tgt : Int)) (ha : inR a) (hb : inR b) (kk : (a ≤ b → X G y d k n tgt xs st M Q) ∧ (¬ (a ≤ b) → X G y d k n (pc + 3) xs st M Q)) : X G y d k n pc xs (vI b :: vI a :: st) M Q := X.two (fun hF w1 w2 => lv_icmp_le hF.1 hF.2.1 hd ht (fun q => w1 ((le_32 ha hb).mp q)) (fun q => w2 (fun z => q ((le_32 ha hb).mpr z)))) kk
theorem x_if_le {a : Int} {off : Int} {tgt : Nat} (hd : decode y.2.1 pc = .ok (.ifCond .le off, 3)) (ht : (pc : Int) + off = (tgt : Int)) (ha : inR a) (kk : (a ≤ 0 → X G y d k n tgt xs st M Q) ∧ (¬ (a ≤ 0) → X G y d k n (pc + 3) xs st M Q)) : X G y d k n pc xs (vI a :: st) M Q := X.two (fun hF w1 w2 => lv_if_le hF.1 hF.2.1 hd ht (fun q => w1 ((le_32 ha inR_0).mp q)) (fun q => w2 (fun z => q ((le_32 ha inR_0).mpr z)))) kk
theorem lcmp_eq {a b : Int} (ha : inL a) (hb : inL b) : lg_cmp (Int64.ofInt a) (Int64.ofInt b) = Int32.ofInt (if a < b then -1 else if a = b then 0 else 1) := by
  have h1 : Int64.ofInt a < Int64.ofInt b ↔ a < b := by rw [Int64.lt_iff_toInt_lt, inL_to ha, inL_to hb]
  have h2 : Int64.ofInt b < Int64.ofInt a ↔ b < a := by rw [Int64.lt_iff_toInt_lt, inL_to ha, inL_to hb]
  have h3 : Int64.ofInt a = Int64.ofInt b ↔ a = b := ⟨fun h => by rw [← inL_to ha, h, inL_to hb], fun h => by rw [h]⟩
  unfold lg_cmp
  rcases Int.lt_trichotomy a b with h | h | h
  · have n1 : ¬ b < a := by omega
    have n2 : ¬ a = b := by omega
    simp [h1, h2, h3, h, n1, n2]; try rfl
  · subst h; simp
  · have n1 : ¬ a < b := by omega
    have n2 : ¬ a = b := by omega
    simp [h1, h2, h3, h, n1, n2]; try rfl
theorem x_lcmp {a b : Int} (hd : decode y.2.1 pc = .ok (.lcmp, 1)) (ha : inL a) (hb : inL b) (kk : X G y d k n (pc + 1) xs (vI (if a < b then -1 else if a = b then 0 else 1) :: st) M Q) : X G y d k n pc xs (vL b :: vL a :: st) M Q :=
  X.same (fun hF _ _ _ w => W.lcmp hF.1 hF.2.1 hd (by rw [lcmp_eq ha hb]; exact w)) kk
theorem x_lcmp_eq {a b : Int} {off : Int} {tgt : Nat} (hd : decode y.2.1 pc = .ok (.lcmp, 1)) (hd2 : decode y.2.1 (pc + 1) = .ok (.ifCond .eq off, 3)) (ht : ((pc + 1 : Nat) : Int) + off = (tgt : Int)) (ha : inL a) (hb : inL b) (kk : (a = b → X G y d k n tgt xs st M Q) ∧ (¬ (a = b) → X G y d k n (pc + 4) xs st M Q)) : X G y d k n pc xs (vL b :: vL a :: st) M Q := by
  refine x_lcmp hd ha hb (x_if_eq hd2 ht (by split <;> (try split) <;> (constructor <;> decide)) ⟨fun h => kk.1 ?_, fun h => kk.2 ?_⟩)
  · split at h <;> (try split at h) <;> omega
  · split at h <;> (try split at h) <;> omega
theorem x_lcmp_ne {a b : Int} {off : Int} {tgt : Nat} (hd : decode y.2.1 pc = .ok (.lcmp, 1)) (hd2 : decode y.2.1 (pc + 1) = .ok (.ifCond .ne off, 3)) (ht : ((pc + 1 : Nat) : Int) + off = (tgt : Int)) (ha : inL a) (hb : inL b) (kk : (a ≠ b → X G y d k n tgt xs st M Q) ∧ (¬ (a ≠ b) → X G y d k n (pc + 4) xs st M Q)) : X G y d k n pc xs (vL b :: vL a :: st) M Q := by
  refine x_lcmp hd ha hb (x_if_ne hd2 ht (by split <;> (try split) <;> (constructor <;> decide)) ⟨fun h => kk.1 ?_, fun h => kk.2 ?_⟩)
  · split at h <;> (try split at h) <;> omega
  · split at h <;> (try split at h) <;> omega
theorem x_lcmp_lt {a b : Int} {off : Int} {tgt : Nat} (hd : decode y.2.1 pc = .ok (.lcmp, 1)) (hd2 : decode y.2.1 (pc + 1) = .ok (.ifCond .lt off, 3)) (ht : ((pc + 1 : Nat) : Int) + off = (tgt : Int)) (ha : inL a) (hb : inL b) (kk : (a < b → X G y d k n tgt xs st M Q) ∧ (¬ (a < b) → X G y d k n (pc + 4) xs st M Q)) : X G y d k n pc xs (vL b :: vL a :: st) M Q := by
  refine x_lcmp hd ha hb (x_if_lt hd2 ht (by split <;> (try split) <;> (constructor <;> decide)) ⟨fun h => kk.1 ?_, fun h => kk.2 ?_⟩)
  · split at h <;> (try split at h) <;> omega
  · split at h <;> (try split at h) <;> omega
theorem x_lcmp_ge {a b : Int} {off : Int} {tgt : Nat} (hd : decode y.2.1 pc = .ok (.lcmp, 1)) (hd2 : decode y.2.1 (pc + 1) = .ok (.ifCond .ge off, 3)) (ht : ((pc + 1 : Nat) : Int) + off = (tgt : Int)) (ha : inL a) (hb : inL b) (kk : (b ≤ a → X G y d k n tgt xs st M Q) ∧ (¬ (b ≤ a) → X G y d k n (pc + 4) xs st M Q)) : X G y d k n pc xs (vL b :: vL a :: st) M Q := by
  refine x_lcmp hd ha hb (x_if_ge hd2 ht (by split <;> (try split) <;> (constructor <;> decide)) ⟨fun h => kk.1 ?_, fun h => kk.2 ?_⟩)
  · split at h <;> (try split at h) <;> omega
  · split at h <;> (try split at h) <;> omega
theorem x_lcmp_gt {a b : Int} {off : Int} {tgt : Nat} (hd : decode y.2.1 pc = .ok (.lcmp, 1)) (hd2 : decode y.2.1 (pc + 1) = .ok (.ifCond .gt off, 3)) (ht : ((pc + 1 : Nat) : Int) + off = (tgt : Int)) (ha : inL a) (hb : inL b) (kk : (b < a → X G y d k n tgt xs st M Q) ∧ (¬ (b < a) → X G y d k n (pc + 4) xs st M Q)) : X G y d k n pc xs (vL b :: vL a :: st) M Q := by
  refine x_lcmp hd ha hb (x_if_gt hd2 ht (by split <;> (try split) <;> (constructor <;> decide)) ⟨fun h => kk.1 ?_, fun h => kk.2 ?_⟩)
  · split at h <;> (try split at h) <;> omega
  · split at h <;> (try split at h) <;> omega
theorem x_lcmp_le {a b : Int} {off : Int} {tgt : Nat} (hd : decode y.2.1 pc = .ok (.lcmp, 1)) (hd2 : decode y.2.1 (pc + 1) = .ok (.ifCond .le off, 3)) (ht : ((pc + 1 : Nat) : Int) + off = (tgt : Int)) (ha : inL a) (hb : inL b) (kk : (a ≤ b → X G y d k n tgt xs st M Q) ∧ (¬ (a ≤ b) → X G y d k n (pc + 4) xs st M Q)) : X G y d k n pc xs (vL b :: vL a :: st) M Q := by
  refine x_lcmp hd ha hb (x_if_le hd2 ht (by split <;> (try split) <;> (constructor <;> decide)) ⟨fun h => kk.1 ?_, fun h => kk.2 ?_⟩)
  · split at h <;> (try split at h) <;> omega
  · split at h <;> (try split at h) <;> omega
theorem x_ifnull {a : Int} {off : Int} {tgt : Nat} (hd : decode y.2.1 pc = .ok (.ifnull off, 3)) (ht : (pc : Int) + off = (tgt : Int)) (kk : (a = -1 → X G y d k n tgt xs st M Q) ∧ (¬ a = -1 → X G y d k n (pc + 3) xs st M Q)) : X G y d k n pc xs (vA a :: st) M Q := X.two (fun hF w1 w2 => by
  simp only [List.map_cons, tV, rfV]
  by_cases h : a = -1
  · rw [if_pos h]; exact lv_ifnullN hF.1 hF.2.1 hd ht (w1 h)
  · rw [if_neg h]; exact lv_ifnull hF.1 hF.2.1 hd (w2 h)) kk
theorem x_ifnonnull {a : Int} {off : Int} {tgt : Nat} (hd : decode y.2.1 pc = .ok (.ifnonnull off, 3)) (ht : (pc : Int) + off = (tgt : Int)) (kk : (¬ a = -1 → X G y d k n tgt xs st M Q) ∧ (¬ ¬ a = -1 → X G y d k n (pc + 3) xs st M Q)) : X G y d k n pc xs (vA a :: st) M Q := X.two (fun hF w1 w2 => by
  simp only [List.map_cons, tV, rfV]
  by_cases h : a = -1
  · rw [if_pos h]; exact lv_ifnonnullN hF.1 hF.2.1 hd (w2 (fun q => q h))
  · rw [if_neg h]; exact lv_ifnonnull hF.1 hF.2.1 hd ht (w1 h)) kk
theorem x_tblO {dflt lo hi : Int} {offs : Array Int} {len : Nat} {a : Int} {tgt : Nat} (hd : decode y.2.1 pc = .ok (.tableswitch dflt lo hi offs, len)) (ht : (pc : Int) + dflt = (tgt : Int)) (ha : inR a) (h : a < lo ∨ hi < a) (kk : X G y d k n tgt xs st M Q) : X G y d k n pc xs (vI a :: st) M Q := X.same (fun hF _ _ _ w => lv_tableOut hF.1 hF.2.1 hd (by rw [inR_to ha]; exact h) ht w) kk
theorem x_tblI {dflt lo hi : Int} {offs : Array Int} {len : Nat} {a off : Int} {tgt : Nat} (hd : decode y.2.1 pc = .ok (.tableswitch dflt lo hi offs, len)) (ha : inR a) (h1 : lo ≤ a) (h2 : a ≤ hi) (ho : offs[(a - lo).toNat]? = some off) (ht : (pc : Int) + off = (tgt : Int)) (kk : X G y d k n tgt xs st M Q) : X G y d k n pc xs (vI a :: st) M Q := X.same (fun hF _ _ _ w => lv_tableIn hF.1 hF.2.1 hd (by rw [inR_to ha]; omega) (by rw [inR_to ha]; omega) (by rw [inR_to ha]; exact ho) ht w) kk
theorem X.ret {v : PV} (h : Q v M) (hw : ∀ {p : Program} {l : Launch} {e : Env} {R : Room} {s : State} {m : MethodId} {args : Array Value} {below : List Frame} {meth : Method} {c : Code} {H : Heap} {locs : List Loc} {cells slots : Nat} {ls : Array Slot},
      Fx G y p s m args meth c → (∀ t : State, t.heap = H → s.WarmedH t.vm → QQ G Q args s (.returned (oV G v)) t) → (∀ q ∈ locs, gR G q.base) → W p l e R s m args below meth c H locs cells slots (MQ below (QQ G Q) args s cells slots (gR G)) (F0 m pc ls (st.map (tV G)))) : X G y d k n pc xs st M Q := by
  intro p l e s m args below meth c H locs cells slots mc ms ls hF hk hn hl hR hS
  refine W.widen (k := mc) (n := ms) (by omega) (by omega) (hw hF (fun t ht hW => ⟨⟨v, M, rfl, h, ?_⟩, hS.F ht⟩) hS.2.2)
  rw [ht]
  exact hR.moved hW.alike
theorem x_ireturn {a : Int} (hd : decode y.2.1 pc = .ok (.ireturn, 1)) (hr : y.2.2.2 = some .int) (h : Q (vI a) M) : X G y d k n pc xs [vI a] M Q := X.ret h (fun hF hq hf => W.iret hF.1 hF.2.1 (by rw [hF.2.2.1, hr]) hq hf hd hF.2.2.2.2.2.2.1)
theorem z_nar {a : Int} (h : a = 0 ∨ a = 1) : narrow .boolean (.int (Int32.ofInt a)) = .int (Int32.ofInt a) := by rcases h with rfl | rfl <;> rfl
theorem x_zreturn {a : Int} (hd : decode y.2.1 pc = .ok (.ireturn, 1)) (hr : y.2.2.2 = some .boolean) (h01 : a = 0 ∨ a = 1) (h : Q (vI a) M) : X G y d k n pc xs [vI a] M Q := X.ret h (fun hF hq hf => W.zret hF.1 hF.2.1 (by rw [hF.2.2.1, hr]) (z_nar h01) hq hf hd hF.2.2.2.2.2.2.1)
theorem x_lreturn {a : Int} (hd : decode y.2.1 pc = .ok (.lreturn, 1)) (hr : y.2.2.2 = some .long) (h : Q (vL a) M) : X G y d k n pc xs [vL a] M Q := X.ret h (fun hF hq hf => W.lret hF.1 hF.2.1 (by rw [hF.2.2.1, hr]) hq hf hd hF.2.2.2.2.2.2.1)
theorem x_return (hd : decode y.2.1 pc = .ok (.return_, 1)) (hr : y.2.2.2 = none) (h : Q vU M) : X G y d k n pc xs [] M Q := X.ret h (fun hF hq hf => W.vret hF.1 hF.2.1 (by rw [hF.2.2.1, hr]) hq hf hd hF.2.2.2.2.2.2.1)
theorem x_areturn {a : Int} {rt : FieldType} (hd : decode y.2.1 pc = .ok (.areturn, 1)) (hr : y.2.2.2 = some rt) (hrt : (∃ n, rt = .object n) ∨ ∃ t, rt = .array t) (h : Q (vA a) M) : X G y d k n pc xs [vA a] M Q := X.ret h (fun hF hq hf => W.aret (v := rfV G a) hF.1 hF.2.1 (by rw [hF.2.2.1, hr]) hrt (by
  unfold rfV
  split
  · exact Or.inl rfl
  · exact Or.inr ⟨_, rfl⟩) hq hf hd hF.2.2.2.2.2.2.1)
end R1
