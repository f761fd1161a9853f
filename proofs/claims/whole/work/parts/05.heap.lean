/-! ===== rows with the memory ===== -/
def okO (M : MM) (r : Int) (kd : Nat) : Prop := 0 ≤ r ∧ r < mN M ∧ (mT M r).1 = kd
def okA (M : MM) (r : Int) (kd : Nat) (i : Int) : Prop := 0 ≤ r ∧ r < mN M ∧ (mT M r).1 = kd ∧ 0 ≤ i ∧ i < (mT M r).2
theorem rd_wr (M : MM) (a i v b j : Int) : rd (wr M a i v) b j = if b = a ∧ j = i then v else rd M b j := rfl
theorem mT_wr (M : MM) (a i v b : Int) : mT (wr M a i v) b = mT M b := rfl
theorem mN_wr (M : MM) (a i v : Int) : mN (wr M a i v) = mN M := rfl
theorem rd_al (M : MM) (kd : Nat) (n : Int) (f : Int → Int) (b j : Int) : rd (al M kd n f) b j = if b = mN M then f j else rd M b j := rfl
theorem mT_al (M : MM) (kd : Nat) (n : Int) (f : Int → Int) (b : Int) : mT (al M kd n f) b = if b = mN M then (kd, n) else mT M b := rfl
theorem mN_al (M : MM) (kd : Nat) (n : Int) (f : Int → Int) : mN (al M kd n f) = mN M + 1 := rfl
theorem rd_cp (M : MM) (a i b j n c q : Int) : rd (cpM M a i b j n) c q = if c = b ∧ j ≤ q ∧ q < j + n then rd M a (i + (q - j)) else rd M c q := rfl
theorem mT_cp (M : MM) (a i b j n c : Int) : mT (cpM M a i b j n) c = mT M c := rfl
theorem mN_cp (M : MM) (a i b j n : Int) : mN (cpM M a i b j n) = mN M := rfl
theorem rfV_pos {G : GG} {r : Int} (h : 0 ≤ r) : rfV G r = .ref (gB G + r.toNat) := by
  unfold rfV gad
  rw [if_neg (by omega), if_neg (by omega)]
theorem Rep.keep {G : GG} {M M' : MM} {s : State} {H H1 : Heap} {r : Int} (hR : Rep G M s H) (h0 : 0 ≤ r) (hN : mN M' = mN M) (hT : ∀ b, mT M' b = mT M b) (hr : ∀ b : Int, b ≠ r → ∀ j, rd M' b j = rd M b j) (z : H1.size = H.size) (oq : ∀ q : Nat, q ≠ gB G + r.toNat → H1[q]? = H[q]?)
    (he : r < mN M → cOK G H1 (gB G + r.toNat) (mT M r) (rd M' r)) : Rep G M' s H1 := by
  obtain ⟨h1, h2, h3, h4, h5⟩ := hR
  refine ⟨by rw [hN]; exact h1, by rw [z, hN]; exact h2, fun a ha0 ha => ?_, h4, h5.kept (fun a _ hA => oq a (fun e => hA (by show gB G ≤ a; omega)))⟩
  rw [hN] at ha
  rw [hT]
  by_cases e : a = r
  · subst e; exact he ha
  · have hx := h3 a ha0 ha
    have hq : H1[gB G + a.toNat]? = H[gB G + a.toNat]? := oq _ (by omega)
    have hf : rd M' a = rd M a := funext (hr a e)
    rw [hf]
    unfold cOK at hx ⊢
    split
    · rename_i hk; rw [if_pos hk] at hx; exact hx.kept hq
    · rename_i hk; rw [if_neg hk] at hx; exact ⟨hx.1, hx.2.1, hx.2.2.1, hx.2.2.2.1, by rw [hq]; exact hx.2.2.2.2⟩
theorem Rep.obj {G : GG} {M : MM} {s : State} {H : Heap} {r : Int} {kd : Nat} (hR : Rep G M s H) (ok : okO M r kd) (hk : kd < 12) : t_OB (gB G + r.toNat) (gC G kd) (kN kd) (gI G kd) H (fun j => fV G (fT kd j) (rd M r j)) := by
  obtain ⟨h1, h2, h3⟩ := ok
  have hx := hR.2.2.1 r h1 h2
  unfold cOK at hx
  rw [h3, if_pos hk] at hx
  exact hx
theorem Rep.arr {G : GG} {M : MM} {s : State} {H : Heap} {r : Int} {kd : Nat} (hR : Rep G M s H) (h0 : 0 ≤ r) (h1 : r < mN M) (h2 : (mT M r).1 = kd) (hk : 20 ≤ kd) : 0 ≤ (mT M r).2 ∧ (mT M r).2 < 2147483648 ∧ H[gB G + r.toNat]? = some (arrV (gA G kd) (mT M r).2.toNat (fun j => fV G (aT kd) (rd M r j))) := by
  have hx := hR.2.2.1 r h0 h1
  unfold cOK at hx
  rw [h2, if_neg (by omega)] at hx
  exact ⟨hx.2.2.1, hx.2.2.2.1, hx.2.2.2.2⟩
section R2
variable {G : GG} {y : YY} {d k n pc pc2 pc3 : Nat} {xs xs' st st2 : List PV} {M : MM} {Q : PV → MM → Prop}
/-- a field's words: its class's number, the class, its field's number, the pool's entry -/
def fW (own : String) (kd : Nat) (j idx : Nat) : Prop := ∃ (Cn : String) (T : u_T), vwCl[kd]? = some (Cn, T, kN kd) ∧ kd < 12 ∧ j < kN kd ∧ (∀ w ∈ u_ws Cn T (kN kd), w ∈ lw_g) ∧ Cond.fieldLink own idx (T j).1 (T j).2.1 (T j).2.2.1 ∈ lw_g ∧ (∀ k, k < kN kd → parseFieldDescriptor (T k).2.2.1 = some (fT kd k)) ∧ (∀ a, a < kN kd → ∀ b, b < kN kd → a ≠ b → (T a).2.1 ≠ (T b).2.1)
theorem x_get {kd j idx : Nat} {r : Int} {v : PV} (hd : decode y.2.1 pc = .ok (.getfield idx, 3)) (hw : fW y.1.cls kd j idx) (ok : okO M r kd) (hx : fV G (fT kd j) (rd M r j) = tV G v) (kk : X G y d k n (pc + 3) xs (v :: st) M Q) : X G y d k n pc xs (vA r :: st) M Q :=
  X.same (fun {p l e R s m args below meth c H locs cells slots Qm ls} hF hl hR hS w => by
    obtain ⟨Cn, T, hc, hk, hj, hin, hlk, -, -⟩ := hw
    obtain ⟨cell, q1, q2, q3, q4⟩ := hR.obj ok hk
    obtain ⟨hSl, hfc, kC, hkC, hkind⟩ := hR.2.2.2.1.1 kd _ hc
    obtain ⟨cf, kf, fi, f, hi, hsl⟩ := hSl j hj
    have hts := hF.2.2.2.2.2.1
    simp only [List.map_cons] at w ⊢
    show W p l e R s m args below meth c H locs cells slots Qm (F0 m pc ls (rfV G r :: st.map (tV G)))
    rw [rfV_pos ok.1]
    refine W.getf hF.1 hF.2.1 hF.2.2.2.2.1 (hts _ hlk) hi (u_facts hfc hkC (u_lays hts hin hj) hi).1 q1 (by rw [q3]; exact fun h => by cases h) (v := tV G v) ?_ rfl rfl hd w
    rw [hsl, q4 j hj, ← hx]) kk
theorem X.write {r j x : Int} (h0 : 0 ≤ r)
    (h : ∀ {p : Program} {l : Launch} {e : Env} {R : Room} {s : State} {m : MethodId} {args : Array Value} {below : List Frame} {meth : Method} {c : Code} {H : Heap} {locs : List Loc} {cells slots : Nat} {Qm : State → Prop} {ls : Array Slot},
      Fx G y p s m args meth c → LV G ls y.2.2.1 xs → Rep G M s H → va_S (gR G) s.heap H locs → (∀ (H1 : Heap) (sl : Nat), H1.size = H.size → (∀ q : Nat, q ≠ gB G + r.toNat → H1[q]? = H[q]?) → (r < mN M → cOK G H1 (gB G + r.toNat) (mT M r) (rd (wr M r j x) r)) →
        W p l e R s m args below meth c H1 (locs ++ [⟨gB G + r.toNat, sl⟩]) cells slots Qm (F0 m pc2 ls (st2.map (tV G)))) → W p l e R s m args below meth c H locs cells slots Qm (F0 m pc ls (st.map (tV G))))
    (kk : X G y d k n pc2 xs st2 (wr M r j x) Q) : X G y d k n pc xs st M Q := by
  intro p l e s m args below meth c H locs cells slots mc ms ls hF hk hn hl hR hS
  refine h hF hl hR hS (fun H1 sl z oq he => kk p l e s m args below meth c H1 _ cells slots mc ms ls hF hk hn hl (hR.keep h0 rfl (fun _ => rfl) (fun b hb j' => ?_) z oq he) (hS.put z oq (by show gB G ≤ _; omega)))
  rw [rd_wr, if_neg (fun q => hb q.1)]
theorem x_put {kd j idx : Nat} {r x : Int} {v : PV} (hd : decode y.2.1 pc = .ok (.putfield idx, 3)) (hw : fW y.1.cls kd j idx) (hfin : ∀ Cn T, vwCl[kd]? = some (Cn, T, kN kd) → ((T j).2.2.2 = false ∨ (y.1.name = "<init>" ∧ (T j).1 = y.1.cls))) (ok : okO M r kd) (hx : fV G (fT kd j) x = tV G v) (hn : narrow (fT kd j) (tV G v) = tV G v) (hfit : fits (fT kd j) (tV G v) = true)
    (kk : X G y d k n (pc + 3) xs st (wr M r j x) Q) : X G y d k n pc xs (v :: vA r :: st) M Q :=
  X.write ok.1 (fun {p l e R s m args below meth c H locs cells slots Qm ls} hF hl hR hS w => by
    obtain ⟨Cn, T, hc, hk, hj, hin, hlk, hty, hnm⟩ := hw
    have hts := hF.2.2.2.2.2.1
    have hap := va_apart (own := y.1.cls) (D := (gC G, gI G)) hts hin (fT kd) hty hnm hR.2.2.2.1 hc
    obtain ⟨cell, q1, q2, q3, q4⟩ := hR.obj ok hk
    obtain ⟨hSl, hfc, kC, hkC, hkind⟩ := hR.2.2.2.1.1 kd _ hc
    obtain ⟨cf, kf, fi, f, hi, hsl⟩ := hSl j hj
    have hlay := hts _ (hin _ (u_in_lay hj))
    have hst := (u_facts hfc hkC (u_lays hts hin hj) hi).1
    have key : ∀ H1 : Heap, H1[gB G + r.toNat]? = some (cell.setSlot f.slot (tV G v)) → r < mN M → cOK G H1 (gB G + r.toNat) (mT M r) (rd (wr M r j x) r) := by
      intro H1 e1 _
      unfold cOK
      rw [ok.2.2, if_pos hk]
      rw [hsl] at e1
      refine t_OB.to (V := updV (fun j => fV G (fT kd j) (rd M r j)) j (tV G v)) ⟨_, e1, q2, q3, t_set q4 hap hj _⟩ (fun i _ => ?_)
      simp only [updV, rd_wr]
      by_cases hij : i = j
      · subst hij; simp [hx]
      · have : ¬ (i : Int) = (j : Int) := by omega
        simp [hij, this]
    simp only [List.map_cons] at w ⊢
    show W p l e R s m args below meth c H locs cells slots Qm (F0 m pc ls (tV G v :: rfV G r :: st.map (tV G)))
    rw [rfV_pos ok.1]
    rcases hfin Cn T hc with hf | ⟨hf1, hf2⟩
    · unfold u_lay at hlay
      rw [if_neg (by rw [hf]; decide)] at hlay
      have h6 := u_store hfc hkC hkind hlay hi (hty j hj) hn hfit
      exact W.putK hF.1 hF.2.1 (f := f) ⟨hF.2.2.2.2.1, hts _ hlk, ⟨_, _, _, hi⟩, hst⟩ (by rw [q2]; exact h6) q1 q3 (by rw [hsl]; exact k2_hasslot (q4 j hj)) rfl rfl hd (fun H1 e1 e2 e3 => w H1 _ e2 e3 (key H1 e1))
    · by_cases hff : (T j).2.2.2 = true
      · unfold u_lay at hlay
        rw [if_pos hff] at hlay
        have hcf : m.cls = cf := by
          obtain ⟨_, _, c', _, _, _, -, -, hf', -, -, -, hown2, -⟩ := Cond.laysFinal_spec hlay
          have e1 : c' = cf := by have := hi.symm.trans hf'; simp at this; exact this.1.symm
          rw [hf2] at hown2
          rw [← e1]; exact Option.some.inj (hF.2.2.2.2.1.symm.trans hown2)
        have h6 := u_fits hfc hkC hkind (Or.inr hlay) hi (hty j hj) hn hfit
        exact W.putFinK hF.1 hF.2.1 hF.2.2.2.2.1 (hts _ hlk) hi hst hcf (by rw [hF.2.2.2.2.2.2.2.1]; exact hf1) (by rw [q2]; exact h6) q1 q3 (by rw [hsl]; exact k2_hasslot (q4 j hj)) rfl rfl hd (fun H1 e1 e2 e3 => w H1 _ e2 e3 (key H1 e1))
      · unfold u_lay at hlay
        rw [if_neg hff] at hlay
        have h6 := u_store hfc hkC hkind hlay hi (hty j hj) hn hfit
        exact W.putK hF.1 hF.2.1 (f := f) ⟨hF.2.2.2.2.1, hts _ hlk, ⟨_, _, _, hi⟩, hst⟩ (by rw [q2]; exact h6) q1 q3 (by rw [hsl]; exact k2_hasslot (q4 j hj)) rfl rfl hd (fun H1 e1 e2 e3 => w H1 _ e2 e3 (key H1 e1))) kk
end R2
