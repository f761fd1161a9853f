section U2
variable {G : GG} {y : YY} {d k n pc pc2 pc3 : Nat} {xs xs' st rest : List PV} {M : MM} {Q : PV → MM → Prop}
theorem x_icmp_eqP {a b : Int} {off : Int} {tgt : Nat} (hd : decode y.2.1 pc = .ok (.if_icmp .eq off, 3)) (ht : (pc : Int) + off = (tgt : Int)) (ha : inR a) (hb : inR b) (kk : (a = b → X G y d k n tgt xs st M Q) ∧ (a ≠ b → X G y d k n (pc + 3) xs st M Q)) : X G y d k n pc xs (vI b :: vI a :: st) M Q := x_icmp_eq hd ht ha hb ⟨fun h => kk.1 (by omega), fun h => kk.2 (by omega)⟩
theorem x_if_eqP {a : Int} {off : Int} {tgt : Nat} (hd : decode y.2.1 pc = .ok (.ifCond .eq off, 3)) (ht : (pc : Int) + off = (tgt : Int)) (ha : inR a) (kk : (a = 0 → X G y d k n tgt xs st M Q) ∧ (a ≠ 0 → X G y d k n (pc + 3) xs st M Q)) : X G y d k n pc xs (vI a :: st) M Q := x_if_eq hd ht ha ⟨fun h => kk.1 (by omega), fun h => kk.2 (by omega)⟩
theorem x_lcmp_eqP {a b : Int} {off : Int} {tgt : Nat} (hd : decode y.2.1 pc = .ok (.lcmp, 1)) (hd2 : decode y.2.1 (pc + 1) = .ok (.ifCond .eq off, 3)) (ht : ((pc + 1 : Nat) : Int) + off = (tgt : Int)) (ha : inL a) (hb : inL b) (kk : (a = b → X G y d k n tgt xs st M Q) ∧ (a ≠ b → X G y d k n (pc + 4) xs st M Q)) : X G y d k n pc xs (vL b :: vL a :: st) M Q := x_lcmp_eq hd hd2 ht ha hb ⟨fun h => kk.1 (by omega), fun h => kk.2 (by omega)⟩
theorem x_icmp_neP {a b : Int} {off : Int} {tgt : Nat} (hd : decode y.2.1 pc = .ok (.if_icmp .ne off, 3)) (ht : (pc : Int) + off = (tgt : Int)) (ha : inR a) (hb : inR b) (kk : (a ≠ b → X G y d k n tgt xs st M Q) ∧ (a = b → X G y d k n (pc + 3) xs st M Q)) : X G y d k n pc xs (vI b :: vI a :: st) M Q := x_icmp_ne hd ht ha hb ⟨fun h => kk.1 (by omega), fun h => kk.2 (by omega)⟩
theorem x_if_neP {a : Int} {off : Int} {tgt : Nat} (hd : decode y.2.1 pc = .ok (.ifCond .ne off, 3)) (ht : (pc : Int) + off = (tgt : Int)) (ha : inR a) (kk : (a ≠ 0 → X G y d k n tgt xs st M Q) ∧ (a = 0 → X G y d k n (pc + 3) xs st M Q)) : X G y d k n pc xs (vI a :: st) M Q := x_if_ne hd ht ha ⟨fun h => kk.1 (by omega), fun h => kk.2 (by omega)⟩
theorem x_lcmp_neP {a b : Int} {off : Int} {tgt : Nat} (hd : decode y.2.1 pc = .ok (.lcmp, 1)) (hd2 : decode y.2.1 (pc + 1) = .ok (.ifCond .ne off, 3)) (ht : ((pc + 1 : Nat) : Int) + off = (tgt : Int)) (ha : inL a) (hb : inL b) (kk : (a ≠ b → X G y d k n tgt xs st M Q) ∧ (a = b → X G y d k n (pc + 4) xs st M Q)) : X G y d k n pc xs (vL b :: vL a :: st) M Q := x_lcmp_ne hd hd2 ht ha hb ⟨fun h => kk.1 (by omega), fun h => kk.2 (by omega)⟩
theorem x_icmp_ltP {a b : Int} {off : Int} {tgt : Nat} (hd : decode y.2.1 pc = .ok (.if_icmp .lt off, 3)) (ht : (pc : Int) + off = (tgt : Int)) (ha : inR a) (hb : inR b) (kk : (a < b → X G y d k n tgt xs st M Q) ∧ (b ≤ a → X G y d k n (pc + 3) xs st M Q)) : X G y d k n pc xs (vI b :: vI a :: st) M Q := x_icmp_lt hd ht ha hb ⟨fun h => kk.1 (by omega), fun h => kk.2 (by omega)⟩
theorem x_if_ltP {a : Int} {off : Int} {tgt : Nat} (hd : decode y.2.1 pc = .ok (.ifCond .lt off, 3)) (ht : (pc : Int) + off = (tgt : Int)) (ha : inR a) (kk : (a < 0 → X G y d k n tgt xs st M Q) ∧ (0 ≤ a → X G y d k n (pc + 3) xs st M Q)) : X G y d k n pc xs (vI a :: st) M Q := x_if_lt hd ht ha ⟨fun h => kk.1 (by omega), fun h => kk.2 (by omega)⟩
theorem x_lcmp_ltP {a b : Int} {off : Int} {tgt : Nat} (hd : decode y.2.1 pc = .ok (.lcmp, 1)) (hd2 : decode y.2.1 (pc + 1) = .ok (.ifCond .lt off, 3)) (ht : ((pc + 1 : Nat) : Int) + off = (tgt : Int)) (ha : inL a) (hb : inL b) (kk : (a < b → X G y d k n tgt xs st M Q) ∧ (b ≤ a → X G y d k n (pc + 4) xs st M Q)) : X G y d k n pc xs (vL b :: vL a :: st) M Q := x_lcmp_lt hd hd2 ht ha hb ⟨fun h => kk.1 (by omega), fun h => kk.2 (by omega)⟩
theorem x_icmp_geP {a b : Int} {off : Int} {tgt : Nat} (hd : decode y.2.1 pc = .ok (.if_icmp .ge off, 3)) (ht : (pc : Int) + off = (tgt : Int)) (ha : inR a) (hb : inR b) (kk : (b ≤ a → X G y d k n tgt xs st M Q) ∧ (a < b → X G y d k n (pc + 3) xs st M Q)) : X G y d k n pc xs (vI b :: vI a :: st) M Q := x_icmp_ge hd ht ha hb ⟨fun h => kk.1 (by omega), fun h => kk.2 (by omega)⟩
theorem x_if_geP {a : Int} {off : Int} {tgt : Nat} (hd : decode y.2.1 pc = .ok (.ifCond .ge off, 3)) (ht : (pc : Int) + off = (tgt : Int)) (ha : inR a) (kk : (0 ≤ a → X G y d k n tgt xs st M Q) ∧ (a < 0 → X G y d k n (pc + 3) xs st M Q)) : X G y d k n pc xs (vI a :: st) M Q := x_if_ge hd ht ha ⟨fun h => kk.1 (by omega), fun h => kk.2 (by omega)⟩
theorem x_lcmp_geP {a b : Int} {off : Int} {tgt : Nat} (hd : decode y.2.1 pc = .ok (.lcmp, 1)) (hd2 : decode y.2.1 (pc + 1) = .ok (.ifCond .ge off, 3)) (ht : ((pc + 1 : Nat) : Int) + off = (tgt : Int)) (ha : inL a) (hb : inL b) (kk : (b ≤ a → X G y d k n tgt xs st M Q) ∧ (a < b → X G y d k n (pc + 4) xs st M Q)) : X G y d k n pc xs (vL b :: vL a :: st) M Q := x_lcmp_ge hd hd2 ht ha hb ⟨fun h => kk.1 (by omega), fun h => kk.2 (by omega)⟩
theorem x_icmp_gtP {a b : Int} {off : Int} {tgt : Nat} (hd : decode y.2.1 pc = .ok (.if_icmp .gt off, 3)) (ht : (pc : Int) + off = (tgt : Int)) (ha : inR a) (hb : inR b) (kk : (b < a → X G y d k n tgt xs st M Q) ∧ (a ≤ b → X G y d k n (pc + 3) xs st M Q)) : X G y d k n pc xs (vI b :: vI a :: st) M Q := x_icmp_gt hd ht ha hb ⟨fun h => kk.1 (by omega), fun h => kk.2 (by omega)⟩
theorem x_if_gtP {a : Int} {off : Int} {tgt : Nat} (hd : decode y.2.1 pc = .ok (.ifCond .gt off, 3)) (ht : (pc : Int) + off = (tgt : Int)) (ha : inR a) (kk : (0 < a → X G y d k n tgt xs st M Q) ∧ (a ≤ 0 → X G y d k n (pc + 3) xs st M Q)) : X G y d k n pc xs (vI a :: st) M Q := x_if_gt hd ht ha ⟨fun h => kk.1 (by omega), fun h => kk.2 (by omega)⟩
theorem x_lcmp_gtP {a b : Int} {off : Int} {tgt : Nat} (hd : decode y.2.1 pc = .ok (.lcmp, 1)) (hd2 : decode y.2.1 (pc + 1) = .ok (.ifCond .gt off, 3)) (ht : ((pc + 1 : Nat) : Int) + off = (tgt : Int)) (ha : inL a) (hb : inL b) (kk : (b < a → X G y d k n tgt xs st M Q) ∧ (a ≤ b → X G y d k n (pc + 4) xs st M Q)) : X G y d k n pc xs (vL b :: vL a :: st) M Q := x_lcmp_gt hd hd2 ht ha hb ⟨fun h => kk.1 (by omega), fun h => kk.2 (by omega)⟩
theorem x_icmp_leP {a b : Int} {off : Int} {tgt : Nat} (hd : decode y.2.1 pc = .ok (.if_icmp .le off, 3)) (ht : (pc : Int) + off = (tgt : Int)) (ha : inR a) (hb : inR b) (kk : (a ≤ b → X G y d k n tgt xs st M Q) ∧ (b < a → X G y d k n (pc + 3) xs st M Q)) : X G y d k n pc xs (vI b :: vI a :: st) M Q := x_icmp_le hd ht ha hb ⟨fun h => kk.1 (by omega), fun h => kk.2 (by omega)⟩
theorem x_if_leP {a : Int} {off : Int} {tgt : Nat} (hd : decode y.2.1 pc = .ok (.ifCond .le off, 3)) (ht : (pc : Int) + off = (tgt : Int)) (ha : inR a) (kk : (a ≤ 0 → X G y d k n tgt xs st M Q) ∧ (0 < a → X G y d k n (pc + 3) xs st M Q)) : X G y d k n pc xs (vI a :: st) M Q := x_if_le hd ht ha ⟨fun h => kk.1 (by omega), fun h => kk.2 (by omega)⟩
theorem x_lcmp_leP {a b : Int} {off : Int} {tgt : Nat} (hd : decode y.2.1 pc = .ok (.lcmp, 1)) (hd2 : decode y.2.1 (pc + 1) = .ok (.ifCond .le off, 3)) (ht : ((pc + 1 : Nat) : Int) + off = (tgt : Int)) (ha : inL a) (hb : inL b) (kk : (a ≤ b → X G y d k n tgt xs st M Q) ∧ (b < a → X G y d k n (pc + 4) xs st M Q)) : X G y d k n pc xs (vL b :: vL a :: st) M Q := x_lcmp_le hd hd2 ht ha hb ⟨fun h => kk.1 (by omega), fun h => kk.2 (by omega)⟩
def wkL : List PV → List PV → Prop
  | [], [] => True
  | x :: xs, y :: ys => (y = x ∨ y = vU) ∧ wkL xs ys
  | _, _ => False
theorem prs_wk (G : GG) : ∀ (xs ys : List PV) (i : Nat), wkL xs ys → ∀ q ∈ prs G i ys, q ∈ prs G i xs
  | [], [], _, _, _, h => h
  | [], _ :: _, _, h, _, _ => h.elim
  | _ :: _, [], _, h, _, _ => h.elim
  | x :: xs, y :: ys, i, h, q, hq => by
    have ih := prs_wk G xs ys (i + 1) h.2
    simp only [prs] at hq ⊢
    rcases h.1 with e | e
    · subst e
      split at hq
      · rename_i hu; rw [if_pos hu]; exact ih q hq
      · rename_i hu; rw [if_neg hu]
        rcases List.mem_cons.mp hq with e | hq
        · rw [e]; exact List.mem_cons_self
        · exact List.mem_cons_of_mem _ (ih q hq)
    · subst e
      simp only [isU, if_true] at hq
      split
      · exact ih q hq
      · exact List.mem_cons_of_mem _ (ih q hq)
theorem X.weak (hw : wkL xs xs') (kk : X G y d k n pc xs' st M Q) : X G y d k n pc xs st M Q := by
  intro p l e s m args below meth c H locs cells slots mc ms ls hF hk hn hl hR hS
  exact kk p l e s m args below meth c H locs cells slots mc ms ls hF hk hn (LV.sub hl (prs_wk G xs xs' 0 hw)) hR hS
theorem inR_i32 (a : Int32) : inR a.toInt := ⟨Int32.le_toInt a, Int32.toInt_lt a⟩
theorem inR_iAnd (a b : Int) : inR (iAnd a b) := inR_i32 _
theorem inR_iOr (a b : Int) : inR (iOr a b) := inR_i32 _
theorem inR_iXor (a b : Int) : inR (iXor a b) := inR_i32 _
theorem inR_iShl (a b : Int) : inR (iShl a b) := inR_i32 _
theorem inR_iShr (a b : Int) : inR (iShr a b) := inR_i32 _
theorem inR_iUshr (a b : Int) : inR (iUshr a b) := inR_i32 _
theorem inR_L {a : Int} (h : inR a) : inL a := ⟨by have := h.1; omega, by have := h.2; omega⟩
theorem x_alenC {r len : Int} {kd : Nat} (hk : 20 ≤ kd) (hk2 : kd < 25) (hd : decode y.2.1 pc = .ok (.arraylength, 1)) (ok : okO M r kd) (hl : (mT M r).2 = len) (kk : X G y d k n (pc + 1) xs (vI len :: st) M Q) : X G y d k n pc xs (vA r :: st) M Q := x_alen hk hk2 hd ok (by rw [hl]; exact kk)
theorem zk (k : Nat) : 0 + k ≤ k := Nat.le_of_eq (Nat.zero_add k)
end U2
