theorem ixN {i : Int} (h0 : 0 ≤ i) (h1 : i < 2147483648) : (Int32.ofInt i).toNatClampNeg = i.toNat := by
  have h := inR_to (a := i) ⟨by omega, by omega⟩
  show (Int32.ofInt i).toInt.toNat = i.toNat
  rw [h]
theorem ix_in {i : Int} {N : Nat} (h0 : 0 ≤ i) (h1 : i < 2147483648) (hN : i.toNat < N) : ¬ (Int32.ofInt i < 0 ∨ N ≤ (Int32.ofInt i).toNatClampNeg) := by
  rw [ixN h0 h1]
  intro q
  rcases q with q | q
  · have := (lt_32 (a := i) (b := 0) ⟨by omega, by omega⟩ inR_0).mp q
    omega
  · omega
theorem KT_at {G : GG} {s : State} (hK : va_K (gC G, gI G) vwCl (KT G) s) {kd : Nat} (h1 : 20 ≤ kd) (h2 : kd < 25) : ArrOfT s (gA G kd) (aT kd) ∧ va_RA s (gA G kd) (aT kd) := by
  have h : (KT G)[kd - 20]? = some (gA G kd, aT kd) := by
    have : kd = 20 ∨ kd = 21 ∨ kd = 22 ∨ kd = 23 ∨ kd = 24 := by omega
    rcases this with rfl | rfl | rfl | rfl | rfl <;> rfl
  exact hK.2 _ _ h
section R3
variable {G : GG} {y : YY} {d k k2 n pc pc2 pc3 : Nat} {xs xs' st st2 : List PV} {M : MM} {Q : PV → MM → Prop}
theorem Rep.elt {s : State} {H : Heap} {r i : Int} {kd : Nat} (hR : Rep G M s H) (ok : okA M r kd i) (hk : 20 ≤ kd) (hk2 : kd < 25) : ∃ cell : Cell, H[gB G + r.toNat]? = some cell ∧ s.isArrayOf cell (aT kd) ∧ cell.vm ≠ .unknown ∧ ¬ (Int32.ofInt i < 0 ∨ cell.slots.size ≤ (Int32.ofInt i).toNatClampNeg) ∧ cell.slots[(Int32.ofInt i).toNatClampNeg]? = some (fV G (aT kd) (rd M r i)) := by
  obtain ⟨h1, h2, h3, h4, h5⟩ := ok
  obtain ⟨g1, g2, g3⟩ := hR.arr h1 h2 h3 hk
  refine ⟨_, g3, (KT_at hR.2.2.2.1 hk hk2).1 _ _, (fun q => by cases q), ?_, ?_⟩
  · rw [arrV_size]; exact ix_in h4 (by omega) (by omega)
  · rw [ixN h4 (by omega), arrV_read _ _ (by omega), show ((i.toNat : Nat) : Int) = i by omega]
theorem x_iald {r i : Int} (hd : decode y.2.1 pc = .ok (.iaload, 1)) (ok : okA M r 20 i) (kk : X G y d k n (pc + 1) xs (vI (rd M r i) :: st) M Q) : X G y d k n pc xs (vI i :: vA r :: st) M Q :=
  X.same (fun {p l e R s m args below meth c H locs cells slots Qm ls} hF hl hR hS w => by
    obtain ⟨cell, h1, h2, h3, h4, h5⟩ := hR.elt ok (by decide) (by decide)
    show W p l e R s m args below meth c H locs cells slots Qm (F0 m pc ls (.int (Int32.ofInt i) :: rfV G r :: st.map (tV G)))
    rw [rfV_pos ok.1]
    exact W.iald hF.1 hF.2.1 h1 h2 h3 h4 h5 rfl rfl hd w) kk
theorem x_lald {r i : Int} (hd : decode y.2.1 pc = .ok (.laload, 1)) (ok : okA M r 21 i) (kk : X G y d k n (pc + 1) xs (vL (rd M r i) :: st) M Q) : X G y d k n pc xs (vI i :: vA r :: st) M Q :=
  X.same (fun {p l e R s m args below meth c H locs cells slots Qm ls} hF hl hR hS w => by
    obtain ⟨cell, h1, h2, h3, h4, h5⟩ := hR.elt ok (by decide) (by decide)
    show W p l e R s m args below meth c H locs cells slots Qm (F0 m pc ls (.int (Int32.ofInt i) :: rfV G r :: st.map (tV G)))
    rw [rfV_pos ok.1]
    exact W.lald hF.1 hF.2.1 h1 h2 h3 h4 h5 rfl rfl hd w) kk
theorem x_zald {r i : Int} (hd : decode y.2.1 pc = .ok (.baload, 1)) (ok : okA M r 22 i) (kk : X G y d k n (pc + 1) xs (vI (rd M r i) :: st) M Q) : X G y d k n pc xs (vI i :: vA r :: st) M Q :=
  X.same (fun {p l e R s m args below meth c H locs cells slots Qm ls} hF hl hR hS w => by
    obtain ⟨cell, h1, h2, h3, h4, h5⟩ := hR.elt ok (by decide) (by decide)
    show W p l e R s m args below meth c H locs cells slots Qm (F0 m pc ls (.int (Int32.ofInt i) :: rfV G r :: st.map (tV G)))
    rw [rfV_pos ok.1]
    exact W.zald hF.1 hF.2.1 h1 h2 h3 h4 h5 rfl rfl hd w) kk
theorem x_aald {r i : Int} (kd : Nat) (hkd : kd = 23 ∨ kd = 24) (hd : decode y.2.1 pc = .ok (.aaload, 1)) (ok : okA M r kd i) (kk : X G y d k n (pc + 1) xs (vA (rd M r i) :: st) M Q) : X G y d k n pc xs (vI i :: vA r :: st) M Q :=
  X.same (fun {p l e R s m args below meth c H locs cells slots Qm ls} hF hl hR hS w => by
    obtain ⟨cell, h1, h2, h3, h4, h5⟩ := hR.elt ok (by omega) (by omega)
    show W p l e R s m args below meth c H locs cells slots Qm (F0 m pc ls (.int (Int32.ofInt i) :: rfV G r :: st.map (tV G)))
    rw [rfV_pos ok.1]
    rcases hkd with rfl | rfl
    · exact W.aald hF.1 hF.2.1 h1 h2 rfl h3 h4 h5 rfl rfl hd w
    · exact W.aald hF.1 hF.2.1 h1 h2 rfl h3 h4 h5 rfl rfl hd w) kk
theorem x_alen {r : Int} {kd : Nat} (hk : 20 ≤ kd) (hk2 : kd < 25) (hd : decode y.2.1 pc = .ok (.arraylength, 1)) (ok : okO M r kd) (kk : X G y d k n (pc + 1) xs (vI (mT M r).2 :: st) M Q) : X G y d k n pc xs (vA r :: st) M Q :=
  X.same (fun {p l e R s m args below meth c H locs cells slots Qm ls} hF hl hR hS w => by
    obtain ⟨g1, g2, g3⟩ := hR.arr ok.1 ok.2.1 ok.2.2 hk
    show W p l e R s m args below meth c H locs cells slots Qm (F0 m pc ls (rfV G r :: st.map (tV G)))
    rw [rfV_pos ok.1]
    refine W.alen (n := Int32.ofInt (mT M r).2) hF.1 hF.2.1 g3 ((KT_at hR.2.2.2.1 hk hk2).1 _ _) ?_ rfl rfl hd w
    rw [arrV_size]
    show Int32.ofNat _ = _
    rw [← Int32.ofInt_eq_ofNat]
    congr 1
    omega) kk
theorem Rep.eltW {s : State} {H1 : Heap} {r i x : Int} {kd : Nat} {v : Value} (ok : okA M r kd i) (hk : 20 ≤ kd) (hk2 : kd < 25) (hR : 0 ≤ (mT M r).2 ∧ (mT M r).2 < 2147483648) (hv : fV G (aT kd) x = v)
    (e : H1[gB G + r.toNat]? = some ((arrV (gA G kd) (mT M r).2.toNat (fun j => fV G (aT kd) (rd M r j))).setSlot (Int32.ofInt i).toNatClampNeg v)) : cOK G H1 (gB G + r.toNat) (mT M r) (rd (wr M r i x) r) := by
  obtain ⟨h1, h2, h3, h4, h5⟩ := ok
  unfold cOK
  rw [h3, if_neg (by omega)]
  refine ⟨hk, hk2, hR.1, hR.2, ?_⟩
  rw [e, arrV_store, ixN h4 (by omega)]
  congr 2
  funext q
  simp only [updV, rd_wr]
  by_cases hq : q = i.toNat
  · have : (q : Int) = i := by omega
    rw [if_pos hq, if_pos ⟨trivial, this⟩, hv]
  · have : ¬ (q : Int) = i := by omega
    rw [if_neg hq, if_neg (fun z => this z.2)]
theorem x_iast {r i x : Int} (hd : decode y.2.1 pc = .ok (.iastore, 1)) (ok : okA M r 20 i) (kk : X G y d k n (pc + 1) xs st (wr M r i x) Q) : X G y d k n pc xs (vI x :: vI i :: vA r :: st) M Q :=
  X.write ok.1 (fun {p l e R s m args below meth c H locs cells slots Qm ls} hF hl hR hS w => by
    obtain ⟨g1, g2, g3⟩ := hR.arr ok.1 ok.2.1 ok.2.2.1 (by decide)
    show W p l e R s m args below meth c H locs cells slots Qm (F0 m pc ls (.int (Int32.ofInt x) :: .int (Int32.ofInt i) :: rfV G r :: st.map (tV G)))
    rw [rfV_pos ok.1]
    refine W.iast hF.1 hF.2.1 g3 ((KT_at hR.2.2.2.1 (kd := 20) (by decide) (by decide)).1 _ _) (fun q => by cases q) (by rw [arrV_size]; exact ix_in ok.2.2.2.1 (by have := ok.2.2.2.2; omega) (by have := ok.2.2.2.2; have := ok.2.2.2.1; omega)) rfl rfl hd (fun H1 e1 z oq => w H1 _ z oq (fun _ => Rep.eltW (s := s) ok (by decide) (by decide) ⟨g1, g2⟩ rfl e1))) kk
theorem x_last {r i x : Int} (hd : decode y.2.1 pc = .ok (.lastore, 1)) (ok : okA M r 21 i) (kk : X G y d k n (pc + 1) xs st (wr M r i x) Q) : X G y d k n pc xs (vL x :: vI i :: vA r :: st) M Q :=
  X.write ok.1 (fun {p l e R s m args below meth c H locs cells slots Qm ls} hF hl hR hS w => by
    obtain ⟨g1, g2, g3⟩ := hR.arr ok.1 ok.2.1 ok.2.2.1 (by decide)
    show W p l e R s m args below meth c H locs cells slots Qm (F0 m pc ls (.long (Int64.ofInt x) :: .int (Int32.ofInt i) :: rfV G r :: st.map (tV G)))
    rw [rfV_pos ok.1]
    refine W.last hF.1 hF.2.1 g3 ((KT_at hR.2.2.2.1 (kd := 21) (by decide) (by decide)).1 _ _) (fun q => by cases q) (by rw [arrV_size]; exact ix_in ok.2.2.2.1 (by have := ok.2.2.2.2; omega) (by have := ok.2.2.2.2; have := ok.2.2.2.1; omega)) rfl rfl hd (fun H1 e1 z oq => w H1 _ z oq (fun _ => Rep.eltW (s := s) ok (by decide) (by decide) ⟨g1, g2⟩ rfl e1))) kk
theorem x_zast {r i x : Int} (hd : decode y.2.1 pc = .ok (.bastore, 1)) (h01 : x = 0 ∨ x = 1) (ok : okA M r 22 i) (kk : X G y d k n (pc + 1) xs st (wr M r i x) Q) : X G y d k n pc xs (vI x :: vI i :: vA r :: st) M Q :=
  X.write ok.1 (fun {p l e R s m args below meth c H locs cells slots Qm ls} hF hl hR hS w => by
    obtain ⟨g1, g2, g3⟩ := hR.arr ok.1 ok.2.1 ok.2.2.1 (by decide)
    show W p l e R s m args below meth c H locs cells slots Qm (F0 m pc ls (.int (Int32.ofInt x) :: .int (Int32.ofInt i) :: rfV G r :: st.map (tV G)))
    rw [rfV_pos ok.1]
    refine W.zast hF.1 hF.2.1 g3 ((KT_at hR.2.2.2.1 (kd := 22) (by decide) (by decide)).1 _ _) (fun q => by cases q) (by rw [arrV_size]; exact ix_in ok.2.2.2.1 (by have := ok.2.2.2.2; omega) (by have := ok.2.2.2.2; have := ok.2.2.2.1; omega)) rfl rfl hd (fun H1 e1 z oq => w H1 _ z oq (fun _ => Rep.eltW (s := s) ok (by decide) (by decide) ⟨g1, g2⟩ (by rcases h01 with rfl | rfl <;> rfl) e1))) kk
/-- a cell of our own is stored in an array of references -/
theorem x_aast {r i x : Int} (kd ko : Nat) (hkd : (kd = 23 ∧ ko = 3) ∨ (kd = 24 ∧ ko = 4)) (hd : decode y.2.1 pc = .ok (.aastore, 1)) (ok : okA M r kd i) (hx : okO M x ko) (kk : X G y d k n (pc + 1) xs st (wr M r i x) Q) : X G y d k n pc xs (vA x :: vI i :: vA r :: st) M Q :=
  X.write ok.1 (fun {p l e R s m args below meth c H locs cells slots Qm ls} hF hl hR hS w => by
    obtain ⟨g1, g2, g3⟩ := hR.arr ok.1 ok.2.1 ok.2.2.1 (by omega)
    obtain ⟨cellV, q1, q2, q3, -⟩ := hR.obj hx (by omega)
    show W p l e R s m args below meth c H locs cells slots Qm (F0 m pc ls (rfV G x :: .int (Int32.ofInt i) :: rfV G r :: st.map (tV G)))
    rw [rfV_pos ok.1, rfV_pos hx.1]
    have hi := ix_in (i := i) (N := (mT M r).2.toNat) ok.2.2.2.1 (by have := ok.2.2.2.2; omega) (by have := ok.2.2.2.2; have := ok.2.2.2.1; omega)
    have fin : ∀ (kA kC : Class), s.vm.classes[gA G kd]? = some kA → (∃ nm, kA.kind = .array (gC G ko) (.object nm)) → s.vm.classes[gC G ko]? = some kC → s.vm.assignable (gC G ko) (gC G ko) = true → W p l e R s m args below meth c H locs cells slots Qm (F0 m pc ls (.ref (gB G + x.toNat) :: .int (Int32.ofInt i) :: .ref (gB G + r.toNat) :: st.map (tV G))) := by
      intro kA kC k1 ⟨nm, k2⟩ k3 k4
      refine W.aast hF.1 hF.2.1 g3 (fun q h => by cases h) (fun h => by cases h) k1 k2 rfl k3 ⟨fun q => hi (Or.inl q), by rw [arrV_size]; exact Nat.not_le.mp fun q => hi (Or.inr q)⟩ q1 (fun q h => by rw [q3] at h; cases h) (by rw [q2]; exact k3) (by rw [q2]; exact k4) rfl rfl hd (fun H1 e1 z oq => w H1 _ z oq (fun _ => Rep.eltW (s := s) ok (by omega) (by omega) ⟨g1, g2⟩ (by rcases hkd with ⟨rfl, -⟩ | ⟨rfl, -⟩ <;> exact rfV_pos hx.1) e1))
    have hK := hR.2.2.2.1
    rcases hkd with ⟨rfl, rfl⟩ | ⟨rfl, rfl⟩
    · have hcls := (hK.1 3 _ rfl).2
      obtain ⟨kA, comp, k1, k2, k3, -⟩ := (KT_at hK (kd := 23) (by decide) (by decide)).2
      have hcomp : comp = gC G 3 := Option.some.inj (k3.symm.trans hcls.1)
      obtain ⟨kC, hkC, -⟩ := hcls.2
      exact fin kA kC k1 ⟨_, by rw [← hcomp]; exact k2⟩ hkC (va_assign hcls)
    · have hcls := (hK.1 4 _ rfl).2
      obtain ⟨kA, comp, k1, k2, k3, -⟩ := (KT_at hK (kd := 24) (by decide) (by decide)).2
      have hcomp : comp = gC G 4 := Option.some.inj (k3.symm.trans hcls.1)
      obtain ⟨kC, hkC, -⟩ := hcls.2
      exact fin kA kC k1 ⟨_, by rw [← hcomp]; exact k2⟩ hkC (va_assign hcls)) kk
/-- the memory with one cell more -/
theorem Rep.grow {s : State} {H H1 : Heap} {kd : Nat} {len : Int} {f : Int → Int} (hR : Rep G M s H) (z : H1.size = H.size + 1) (oq : ∀ q : Nat, q < H.size → H1[q]? = H[q]?) (he : cOK G H1 H.size (kd, len) f) : Rep G (al M kd len f) s H1 := by
  obtain ⟨h1, h2, h3, h4, h5⟩ := hR
  refine ⟨by rw [mN_al]; omega, by rw [z, mN_al]; omega, fun a ha0 ha => ?_, h4, h5.kept (fun a hl _ => oq a hl)⟩
  rw [mN_al] at ha
  by_cases e : a = mN M
  · rw [mT_al, if_pos e, show rd (al M kd len f) a = f from funext fun j => by rw [rd_al, if_pos e], show gB G + a.toNat = H.size by rw [e]; exact h2.symm]
    exact he
  · rw [mT_al, if_neg e, show rd (al M kd len f) a = rd M a from funext fun j => by rw [rd_al, if_neg e]]
    have hx := h3 a ha0 (by omega)
    have hq : H1[gB G + a.toNat]? = H[gB G + a.toNat]? := oq _ (by omega)
    unfold cOK at hx ⊢
    split
    · rename_i hk; rw [if_pos hk] at hx; exact hx.kept hq
    · rename_i hk; rw [if_neg hk] at hx; exact ⟨hx.1, hx.2.1, hx.2.2.1, hx.2.2.2.1, by rw [hq]; exact hx.2.2.2.2⟩
theorem X.make {kd : Nat} {len : Int} {f : Int → Int} {j : Nat} (hj : j + n ≤ k2)
    (h : ∀ {p : Program} {l : Launch} {e : Env} {R : Room} {s : State} {m : MethodId} {args : Array Value} {below : List Frame} {meth : Method} {c : Code} {H : Heap} {locs : List Loc} {cells slots : Nat} {Qm : State → Prop} {ls : Array Slot},
      Fx G y p s m args meth c → Rep G M s H → cells + 1 ≤ R.cells → slots + j ≤ R.slots → (∀ (H1 : Heap), H1.size = H.size + 1 → (∀ q : Nat, q < H.size → H1[q]? = H[q]?) → cOK G H1 H.size (kd, len) f →
        W p l e R s m args below meth c H1 locs (cells + 1) (slots + j) Qm (F0 m pc2 ls (.ref H.size :: st2.map (tV G)))) → W p l e R s m args below meth c H locs cells slots Qm (F0 m pc ls (st.map (tV G))))
    (kk : X G y d k n pc2 xs (vA (mN M) :: st2) (al M kd len f) Q) : X G y d (k + 1) k2 pc xs st M Q := by
  intro p l e s m args below meth c H locs cells slots mc ms ls hF hk hn hl hR hS
  refine h hF hR (by show cells + 1 ≤ mc; omega) (by show slots + j ≤ ms; omega) (fun H1 z oq he => ?_)
  have w := kk p l e s m args below meth c H1 locs (cells + 1) (slots + j) mc ms ls hF (by omega) (by omega) hl (hR.grow z oq he) ⟨Nat.le_trans hS.1 (by omega), fun x h1 h2 => (oq x (Nat.lt_of_lt_of_le h1 hS.1)).trans (hS.2.1 x h1 h2), hS.2.2⟩
  simp only [List.map_cons] at w
  have e1 : tV G (vA (mN M)) = .ref H.size := by
    show rfV G (mN M) = _
    rw [rfV_pos hR.1, hR.2.1]
  rw [e1] at w
  exact w
end R3
