/-! ===== orders: the class runs a clause ===== -/
def SOK (r0 : Nat → Int32) (n np : Nat) (S : OS) (B : Nat) : Prop := i_BT 999 S.1 ∧ S.2.1 ≤ 16 ∧ PB S.2.1 S.2.2.1 S.1 ∧ S.2.2.2.1 ≤ B ∧ -1 ≤ S.2.2.2.2.toInt ∧ S.2.2.2.2.toInt ≤ 2000 ∧ (∀ j, j < 5 ∨ (6 ≤ j ∧ j < 9) ∨ 51 ≤ j → S.1 j = r0 j) ∧ S.1 0 = nI n ∧ n ≤ 6 ∧ S.1 1 = nI np ∧ np ≤ 5
theorem doO_ok {r0 : Nat → Int32} {n np B : Nat} {S S' : OS} {lf : Option (List ev_C)} {c : GC} {a b : Int32} (h : SOK r0 n np S B) (hc : c.1 < 4) (he : doO lf n np c S a b = some S') : SOK r0 n np S' (B + 1) := by
  obtain ⟨h1, h2, h3, h4, h5, h6, h7, h8, h9, h10, h11⟩ := h
  have hd := dD_ok (lf := lf) h1 h9 h11 c.1 a b
  unfold doO at he
  unfold dOk at hd
  cases hx : (dD lf S.1 n np c.1 a b).2 with
  | none => rw [hx] at he; cases he
  | some y =>
    rw [hx] at he hd
    cases he
    obtain ⟨d1, d2, d3⟩ := hd
    have hdv : wi (nI c.1) 0 3 := by
      unfold wi
      rw [nI_toInt (by omega)]
      omega
    refine ⟨d3, pu_le h2, PB_push h3 h1 hdv h2 (fun i i1 i2 => d2 _ (Or.inr (Or.inl (by omega)))), by show S.2.2.2.1 + 1 ≤ B + 1; omega, ?_, ?_, fun j hj => (d2 j hj).trans (h7 j hj), (d2 0 (by omega)).trans h8, h9, (d2 1 (by omega)).trans h10, h11⟩
    · show -1 ≤ (if c.1 = 0 then nI y.1 else S.2.2.2.2).toInt
      split
      · rw [nI_toInt (by omega)]; omega
      · exact h5
    · show (if c.1 = 0 then nI y.1 else S.2.2.2.2).toInt ≤ 2000
      split
      · rw [nI_toInt (by omega)]; omega
      · exact h6
theorem itr_ok {r0 : Nat → Int32} {n np B : Nat} {S S' : OS} {lf : Option (List ev_C)} {c : GC} (h : SOK r0 n np S B) (hc : c.1 < 4) (he : itr lf n np c S = some S') : SOK r0 n np S' (B + 1) := by
  unfold itr at he
  by_cases z : tsO c.2.2.2.2 (wdO S.1 n S.2.2.2.1 S.2.2.2.2) = false
  · rw [if_pos z] at he
    cases he
    obtain ⟨h1, h2, h3, h4, h5⟩ := h
    exact ⟨h1, h2, h3, by omega, h5⟩
  · rw [if_neg z] at he
    unfold suO at he
    cases h1 : vI 0 c.2.1 (wdO S.1 n S.2.2.2.1 S.2.2.2.2) with
    | none => rw [h1] at he; cases he
    | some a =>
      rw [h1] at he
      cases h2 : vI 0 c.2.2.1 (wdO S.1 n S.2.2.2.1 S.2.2.2.2) with
      | none => rw [h2] at he; cases he
      | some b =>
        rw [h2] at he
        exact doO_ok h hc he
/-- the text in the class's memory -/
def TXO (M : sp_Mem) (len : Nat) (cl : List GC) : Prop := sp_N M 38 = 16 ∧ sp_N M 98 = 60 ∧ sp_N M 99 = 400 ∧ sp_I M 97 3 = nI len ∧ len ≤ 400 ∧ CLG 16 (sp_I M 98) (sp_I M 99) len cl ∧ cl.length ≤ 12
theorem TXO_fr {M M' : sp_Mem} {A : List Nat} {B : List (Nat × Nat)} {len : Nat} {cl : List GC} (hf : sp_fr A B M M') (hd : dj [98, 99] [(97, 3)] A B = true) (h : TXO M len cl) : TXO M' len cl := by
  obtain ⟨h1, h2, h3, h4, h5, h6, h7⟩ := h
  refine ⟨(hf.2.2.2.2.1 38).trans h1, (hf.2.2.2.2.1 98).trans h2, (hf.2.2.2.2.1 99).trans h3, (fr_B hf hd 97 3 (by decide)).trans h4, h5, ?_, h7⟩
  rw [fr_A hf hd 98 (by decide), fr_A hf hd 99 (by decide)]
  exact h6
theorem t32 (x : Int32) : Int64.toInt32 (Int32.toInt64 x) = x := by simp
section Ord1
variable {F n np len : Nat} {M : sp_Mem} {cl : List GC} {c : GC} {lf : Option (List ev_C)} {W : Nat → Int64}
theorem slot_o {i a : Nat} (h : TXO M len cl) (hi : i < 12) (ha : a < 5) : fX9_slot M 97 (nI i) (nI a) = some (sp_I M 98 (5 * i + a)) := by
  unfold fX9_slot
  simp only [sp_do]
  have e : nI i * 5 + nI a = nI (5 * i + a) := by
    rw [show nI i * 5 = nI (i * 5) from nI_mul _ 5, nI_add, Nat.mul_comm i 5]
  rw [e, if_neg (show ¬ nI (5 * i + a) < 0 by rw [Int32.lt_iff_toInt_lt, nI_toInt (by omega)]; show ¬ (((5 * i + a : Nat) : Int) < 0); omega), show sp_N M (97 + 1) = 60 from h.2.1, if_neg (show ¬ Int32.ofNat 60 ≤ nI (5 * i + a) from nI_ge (by omega) (by omega)), sp_ix_nI (show 5 * i + a < 60 by omega) (by omega), Option.bind_some]
theorem valO {f : ev_S} {x : Int32} (hF : 1000 ≤ F) (h : TXO M len cl) (hw : ∀ i, i < 16 → Int32.toInt64 (sp_I M 38 i) = W i) (hW : ∀ i, i < 16 → ev_chk (W i) = some (W i)) (ho : ev_CO 16 (sp_I M 99) len x (some f)) : x ≠ -1 ∧ ∃ y M', fX0_value F M 97 x 38 = some (y, M') ∧ sp_fr [3] [] M M' ∧ (f W = none → y = -2000000000) ∧ (∀ v, f W = some v → Int32.toInt64 y = v ∧ y ≠ -2000000000) := by
  obtain ⟨p, q, m, rfl, hq, hm, hS, h0⟩ := ho
  have hp : p < q := hS.1
  have hl := h.2.2.2.2.1
  refine ⟨nI_m1 (by omega), ?_⟩
  exact ev_val (o1 := 97) (o3 := 38) hF (by decide) (by decide) ⟨rfl, by show len ≤ sp_N M 99; rw [h.2.2.1]; exact hl, by show sp_N M 99 ≤ 400; rw [h.2.2.1]; omega, h.1, by omega, hw⟩ h.2.2.2.1 hS hm hq h0 hW
theorem sum_c {i a : Nat} {o : Option ev_S} (hF : 1000 ≤ F) (h : TXO M len cl) (hi : i < 12) (ha : a < 5) (hw : ∀ i, i < 16 → Int32.toInt64 (sp_I M 38 i) = W i) (hW : ∀ i, i < 16 → ev_chk (W i) = some (W i)) (ho : ev_CO 16 (sp_I M 99) len (sp_I M 98 (5 * i + a)) o) : ∃ x M', fX6_sumOf F M 97 (nI i) (nI a) 38 = some (x, M') ∧ sp_fr [3] [] M M' ∧ (vI 0 o W = none → x = -2000000000) ∧ (∀ v, vI 0 o W = some v → x = v ∧ x ≠ -2000000000) := by
  unfold fX6_sumOf
  rw [slot_o h hi ha, Option.bind_some]
  cases o with
  | none =>
    have ho : sp_I M 98 (5 * i + a) = -1 := ho
    rw [ho, if_pos rfl]
    exact ⟨0, M, rfl, sp_fr.refl _ _ _, fun z => (by cases z), fun v z => (by cases z; exact ⟨rfl, by decide⟩)⟩
  | some f =>
    obtain ⟨n1, y, M', e1, e2, e3, e4⟩ := valO hF h hw hW ho
    rw [if_neg n1, e1, Option.bind_some]
    refine ⟨y, M', rfl, e2, fun z => ?_, fun v z => ?_⟩
    · refine e3 ?_
      cases hf : f W with
      | none => rfl
      | some v =>
        have z : (f W).map Int64.toInt32 = none := z
        rw [hf] at z; cases z
    · cases hf : f W with
      | none =>
        have z : (f W).map Int64.toInt32 = some v := z
        rw [hf] at z; cases z
      | some w =>
        have z : (f W).map Int64.toInt32 = some v := z
        rw [hf] at z
        have z : Int64.toInt32 w = v := Option.some.inj z
        obtain ⟨a1, a2⟩ := e4 w hf
        refine ⟨?_, a2⟩
        rw [← z, ← a1, t32]
theorem iso_c {i : Nat} {o : Option ev_S} (hF : 1000 ≤ F) (h : TXO M len cl) (hi : i < 12) (hw : ∀ i, i < 16 → Int32.toInt64 (sp_I M 38 i) = W i) (hW : ∀ i, i < 16 → ev_chk (W i) = some (W i)) (ho : ev_CO 16 (sp_I M 99) len (sp_I M 98 (5 * i + 4)) o) : ∃ M', fX6_isSo F M 97 (nI i) 38 = some (bI (tsO o W), M') ∧ sp_fr [3] [] M M' := by
  unfold fX6_isSo
  rw [show fX9_slot M 97 (nI i) 4 = some (sp_I M 98 (5 * i + 4)) from slot_o (a := 4) h hi (by omega), Option.bind_some]
  cases o with
  | none =>
    have ho : sp_I M 98 (5 * i + 4) = -1 := ho
    rw [ho, if_pos rfl]
    exact ⟨M, rfl, sp_fr.refl _ _ _⟩
  | some f =>
    obtain ⟨n1, y, M', e1, e2, e3, e4⟩ := valO hF h hw hW ho
    rw [if_neg n1, e1, Option.bind_some]
    refine ⟨M', ?_, e2⟩
    unfold tsO
    dsimp only
    by_cases z : f W = some 1
    · have := (e4 1 z).1
      have hy : y = 1 := by rw [← t32 y, this]; decide
      rw [decide_eq_true z, if_pos hy]; rfl
    · have hy : ¬ y = 1 := by
        intro w
        cases hf : f W with
        | none => rw [e3 hf] at w; exact absurd w (by decide)
        | some v =>
          have := (e4 v hf).1
          rw [w] at this
          exact z (by rw [hf, ← this]; rfl)
      rw [decide_eq_false z, if_neg hy]; rfl
/-- the class in the midst of orders -/
def OCC (F : Nat) (M : sp_Mem) (len : Nat) (cl : List GC) (S : OS) (lf : Option (List ev_C)) (n : Nat) : Prop := CX F M 23 S.1 lf n 999 ∧ (∃ w, PC M 35 w S.2.1 S.2.2.1) ∧ sp_I M 22 5 = nI S.2.2.2.1 ∧ sp_I M 22 4 = S.2.2.2.2 ∧ TXO M len cl
theorem OCC_3 {M M' : sp_Mem} {S : OS} {A : List Nat} (hf : sp_fr A [] M M') (hA : A = [3] ∨ A = [38]) (h : OCC F M len cl S lf n) : OCC F M' len cl S lf n := by
  obtain ⟨h1, ⟨w, h2⟩, h3, h4, h5⟩ := h
  have hn : ∀ i, i ∈ A → i = 3 ∨ i = 38 := fun i hi => by
    rcases hA with e | e
    · rw [e] at hi; exact Or.inl (List.mem_singleton.mp hi)
    · rw [e] at hi; exact Or.inr (List.mem_singleton.mp hi)
  have no : ∀ x, x ≠ 3 → x ≠ 38 → x ∉ A := fun x a b w => by have := hn x w; omega
  refine ⟨CX_fr3 hf h1 (fun i hi => by have := hn i hi; omega) (fun q hq => by cases hq), ⟨w, PC_fr h2 hf ⟨no _ (by decide) (by decide), by simp, by simp⟩ ⟨no _ (by decide) (by decide), by simp⟩ ⟨no _ (by decide) (by decide), by simp⟩⟩, ?_, ?_, ?_⟩
  · rw [hf.1 22 5 (no _ (by decide) (by decide)) (by simp)]; exact h3
  · rw [hf.1 22 4 (no _ (by decide) (by decide)) (by simp)]; exact h4
  · rcases hA with e | e
    · subst e; exact TXO_fr hf (by decide) h5
    · subst e; exact TXO_fr hf (by decide) h5
theorem it_c {kx : sp_Mem → Option (Int32 × sp_Mem)} {kf i a5 B : Nat} {S : OS} {r0 : Nat → Int32} (hF : 1000 ≤ F) (hc : cl[i]? = some c) (hs : sumsOk c) (h : OCC F M len cl S lf n) (hS : SOK r0 n np S B) (hB : B ≤ 1000) (ha : a5 < c.2.2.2.1) :
  (itr lf n np c S = none → ∃ M', fX7_runClause_l18 F 22 97 kx (kf + 1) (nI i) (nI c.1) (nI c.2.2.2.1) (nI a5) M = some (0, M')) ∧
  (∀ S', itr lf n np c S = some S' → ∃ M', fX7_runClause_l18 F 22 97 kx (kf + 1) (nI i) (nI c.1) (nI c.2.2.2.1) (nI a5) M = fX7_runClause_l18 F 22 97 kx kf (nI i) (nI c.1) (nI c.2.2.2.1) (nI (a5 + 1)) M' ∧ OCC F M' len cl S' lf n) := by
  have hi12 : i < 12 := by
    have := (List.getElem?_eq_some_iff.mp hc).1
    have := h.2.2.2.2.2.2.2.2.2.2
    omega
  obtain ⟨s1, s2, s3, s4, s5⟩ := hs
  obtain ⟨k1, k2, k3, k4, k5, k6, k7, k8, k9, k10, k11⟩ := hS
  have hW := wdO_ok (dn := S.2.2.2.1) k1 k9 (show S.2.2.2.1 ≤ 1000 by omega) k5 k6
  obtain ⟨M1, l1, l2, l3⟩ := look_c (M := M) hF k8 k9 h.1.2.2.2.1 h.2.2.1 h.2.2.2.1
  have h1 := OCC_3 l2 (Or.inr rfl) h
  obtain ⟨c0, c1, c2, c3, c4⟩ := h1.2.2.2.2.2.2.2.2.2.1 i c hc
  obtain ⟨M2, t1, t2⟩ := iso_c hF h1.2.2.2.2 hi12 l3 hW c4
  have h2 := OCC_3 t2 (Or.inl rfl) h1
  have w2 : ∀ j, j < 16 → Int32.toInt64 (sp_I M2 38 j) = wdO S.1 n S.2.2.2.1 S.2.2.2.2 j := fun j hj => by rw [t2.1 38 j (by decide) (by simp)]; exact l3 j hj
  have pre : fX7_runClause_l18 F 22 97 kx (kf + 1) (nI i) (nI c.1) (nI c.2.2.2.1) (nI a5) M = (if bI (tsO c.2.2.2.2 (wdO S.1 n S.2.2.2.1 S.2.2.2.2)) = 0 then ((fX7_runClause_l18 F 22 97 kx kf) (nI i) (nI c.1) (nI c.2.2.2.1) (nI a5 + 1) M2) else ((fX6_sumOf F M2 97 (nI i) 1 38).bind fun x7 => (fX6_sumOf F x7.2 97 (nI i) 2 38).bind fun x8 => if x7.1 = (-2000000000) then (fX7_runClause_j91 F 22 97 (fX7_runClause_l18 F 22 97 kx kf) kx (nI i) (nI c.1) (nI c.2.2.2.1) (nI a5) x8.2) else (if x8.1 = (-2000000000) then (fX7_runClause_j91 F 22 97 (fX7_runClause_l18 F 22 97 kx kf) kx (nI i) (nI c.1) (nI c.2.2.2.1) (nI a5) x8.2) else ((fX7_perform F x8.2 22 (nI c.1) x7.1 x8.1).bind fun x16 => fX7_runClause_j105 F 22 97 (fX7_runClause_l18 F 22 97 kx kf) kx (nI i) (nI c.1) (nI c.2.2.2.1) (nI a5) x16.1 x16.2)))) := by
    rw [fX7_runClause_l18, if_neg (nI_ge ha (by omega)), l1, Option.bind_some, show fX6_isSo F M1 97 (nI i) (22 + 16) = some (bI (tsO c.2.2.2.2 (wdO S.1 n S.2.2.2.1 S.2.2.2.2)), M2) from t1, Option.bind_some]
  rw [pre]
  unfold itr
  cases hts : tsO c.2.2.2.2 (wdO S.1 n S.2.2.2.1 S.2.2.2.2) with
  | false =>
    rw [if_pos rfl, if_pos (show bI false = 0 from rfl), nI_1]
    refine ⟨fun z => (by cases z), fun S' z => ?_⟩
    cases z
    exact ⟨M2, rfl, h2⟩
  | true =>
    rw [if_neg (by decide), if_neg (show ¬ bI true = 0 by decide)]
    obtain ⟨x, M3, u1, u2, u3, u4⟩ := sum_c (a := 1) (o := c.2.1) hF h2.2.2.2.2 hi12 (by omega) w2 hW (by
      rw [fr_A (SA := [98]) (SB := []) t2 (by decide) 98 (by decide), fr_A (SA := [99]) (SB := []) t2 (by decide) 99 (by decide)]
      exact c1)
    have h3 := OCC_3 u2 (Or.inl rfl) h2
    have w3 : ∀ j, j < 16 → Int32.toInt64 (sp_I M3 38 j) = wdO S.1 n S.2.2.2.1 S.2.2.2.2 j := fun j hj => by rw [u2.1 38 j (by decide) (by simp)]; exact w2 j hj
    obtain ⟨y, M4, v1, v2, v3, v4⟩ := sum_c (a := 2) (o := c.2.2.1) hF h3.2.2.2.2 hi12 (by omega) w3 hW (by
      rw [fr_A (SA := [98]) (SB := []) u2 (by decide) 98 (by decide), fr_A (SA := [99]) (SB := []) u2 (by decide) 99 (by decide), fr_A (SA := [98]) (SB := []) t2 (by decide) 98 (by decide), fr_A (SA := [99]) (SB := []) t2 (by decide) 99 (by decide)]
      exact c2)
    have h4 := OCC_3 v2 (Or.inl rfl) h3
    rw [show fX6_sumOf F M2 97 (nI i) 1 38 = some (x, M3) from u1, Option.bind_some]
    dsimp only
    rw [show fX6_sumOf F M3 97 (nI i) 2 38 = some (y, M4) from v1, Option.bind_some]
    dsimp only
    have j91 : fX7_runClause_j91 F 22 97 (fX7_runClause_l18 F 22 97 kx kf) kx (nI i) (nI c.1) (nI c.2.2.2.1) (nI a5) M4 = some (0, M4) := by
      unfold fX7_runClause_j91 fX7_runClause_j105
      rw [if_neg (by decide)]
    unfold suO
    cases hv1 : vI 0 c.2.1 (wdO S.1 n S.2.2.2.1 S.2.2.2.2) with
    | none =>
      rw [if_pos (u3 hv1), j91]
      exact ⟨fun _ => ⟨M4, rfl⟩, fun S' z => (by cases z)⟩
    | some a =>
      obtain ⟨rfl, nx⟩ := u4 a hv1
      rw [if_neg nx]
      dsimp only
      cases hv2 : vI 0 c.2.2.1 (wdO S.1 n S.2.2.2.1 S.2.2.2.2) with
      | none =>
        rw [if_pos (v3 hv2), j91]
        exact ⟨fun _ => ⟨M4, rfl⟩, fun S' z => (by cases z)⟩
      | some b =>
        obtain ⟨rfl, ny⟩ := v4 b hv2
        rw [if_neg ny]
        dsimp only
        obtain ⟨g1, ⟨w, g2⟩, g3, g4, g5⟩ := h4
        obtain ⟨M5, p1, p2⟩ := perf_c (o0 := 22) (dd := c.1) (Or.inr rfl) g1 g2 k10 k11 s1 x y
        have fP := frX7_perform p1
        have q5 : sp_I M5 22 5 = nI S.2.2.2.1 := (fP.1 22 5 (by decide) (by decide)).trans g3
        have q4 : sp_I M5 22 4 = S.2.2.2.2 := (fP.1 22 4 (by decide) (by decide)).trans g4
        have qT : TXO M5 len cl := TXO_fr fP (by decide) g5
        have dok := dD_ok (lf := lf) k1 k9 k11 c.1 x y
        rw [p1, Option.bind_some]
        dsimp only
        unfold doO
        unfold dAC at p2
        unfold dOk at dok
        unfold tv
        cases hD : (dD lf S.1 n np c.1 x y).2 with
        | none =>
          rw [hD] at dok
          refine ⟨fun _ => ⟨M5, ?_⟩, fun S' z => (by cases z)⟩
          unfold fX7_runClause_j105
          dsimp only
          rw [if_neg]
          intro z
          have := neg3 (dD lf S.1 n np c.1 x y).1 dok.1 (by omega)
          rw [n_le] at z
          rw [n_lt] at this
          omega
        | some z =>
          rw [hD] at dok p2
          refine ⟨fun w => (by cases w), fun S' e => ?_⟩
          cases e
          have ht : z.1 < 2000 := dok.1
          let M6 := sp_setI M5 22 5 (nI (S.2.2.2.1 + 1))
          have gen : ∀ la, OCC F (sp_setI M6 22 4 la) len cl (z.2, pu S.2.1, pe S.2.1 S.2.2.1 (nI c.1, fun i => S.1 (5 + i)), S.2.2.2.1 + 1, la) lf n := by
            intro la
            have f7 : sp_fr [] [(22, 5), (22, 4)] M5 (sp_setI M6 22 4 la) := (sp_fr_I (Or.inr (by decide)) rfl).tr (sp_fr_I (Or.inr (by decide)) rfl)
            refine ⟨CX_fr3 f7 p2.1 (fun i hi => by cases hi) (fun q hq => by simp at hq; rcases hq with rfl | rfl <;> simp), ⟨_, PC_fr p2.2 f7 (by simp) (by simp) (by simp)⟩, ?_, I_eq _ _ _ _, TXO_fr f7 (by decide) qT⟩
            rw [I_nf _ _ _ (by decide)]
            exact I_eq _ _ _ _
          refine ⟨sp_setI M6 22 4 (if c.1 = 0 then nI z.1 else S.2.2.2.2), ?_, gen _⟩
          unfold fX7_runClause_j105
          dsimp only
          rw [if_pos (show (0 : Int32) ≤ nI z.1 from nI_le (a := 0) (by omega) (by omega))]
          simp only [sp_do]
          rw [q5, nI_1]
          by_cases hz : c.1 = 0
          · rw [if_pos (show nI c.1 = 0 by rw [hz]; rfl), if_pos hz, nI_1]
          · rw [if_neg (show ¬ nI c.1 = 0 from fun w => hz ((nIe (b := 0) (by omega) (by omega)).1 w)), if_neg hz, nI_1, show sp_I (sp_setI M5 22 5 (nI (S.2.2.2.1 + 1))) 22 4 = S.2.2.2.2 from (I_nf _ _ _ (by decide)).trans q4]
/-- a clause, as often as it says -/
def rnO (lf : Option (List ev_C)) (n np : Nat) (c : GC) : Nat → OS → Option OS
  | 0, S => some S
  | m + 1, S => (itr lf n np c S).bind (rnO lf n np c m)
theorem rn_c {kx : sp_Mem → Option (Int32 × sp_Mem)} {i : Nat} {r0 : Nat → Int32} (hF : 1000 ≤ F) (hc : cl[i]? = some c) (hs : sumsOk c) : ∀ (m a5 kf B : Nat) (M : sp_Mem) (S : OS), a5 + m = c.2.2.2.1 → m < kf → OCC F M len cl S lf n → SOK r0 n np S B → B + m ≤ 1000 →
  (rnO lf n np c m S = none → ∃ M', fX7_runClause_l18 F 22 97 kx kf (nI i) (nI c.1) (nI c.2.2.2.1) (nI a5) M = some (0, M')) ∧
  (∀ S', rnO lf n np c m S = some S' → (∃ M', fX7_runClause_l18 F 22 97 kx kf (nI i) (nI c.1) (nI c.2.2.2.1) (nI a5) M = kx M' ∧ OCC F M' len cl S' lf n) ∧ SOK r0 n np S' (B + m))
  | 0, a5, kf, B, M, S, ha, hk, h, hS, hB => by
    obtain ⟨kf, rfl⟩ : ∃ m, kf = m + 1 := ⟨kf - 1, by omega⟩
    refine ⟨fun z => (by cases z), fun S' z => ?_⟩
    cases z
    refine ⟨⟨M, ?_, h⟩, hS⟩
    rw [fX7_runClause_l18, if_pos (nI_le (by omega) (by have := hs.2.2.2.2; omega))]
  | m + 1, a5, kf, B, M, S, ha, hk, h, hS, hB => by
    obtain ⟨kf, rfl⟩ : ∃ m, kf = m + 1 := ⟨kf - 1, by omega⟩
    have I := it_c (kx := kx) (kf := kf) (a5 := a5) hF hc hs h hS (by omega) (by omega)
    rw [rnO]
    cases hi : itr lf n np c S with
    | none =>
      exact ⟨fun _ => I.1 hi, fun S' z => (by cases z)⟩
    | some S1 =>
      obtain ⟨M1, e1, e2⟩ := I.2 S1 hi
      have J := rn_c (kx := kx) hF hc hs m (a5 + 1) kf (B + 1) M1 S1 (by omega) (by omega) e2 (itr_ok hS hs.1 hi) (by omega)
      rw [Option.bind_some, e1]
      refine ⟨J.1, fun S' z => ?_⟩
      have := J.2 S' z
      rw [show B + 1 + m = B + (m + 1) by omega] at this
      exact this
/-- all clauses; .inl: the one that fails -/
def ruO (lf : Option (List ev_C)) (n np : Nat) : List GC → Nat → OS → Nat ⊕ OS
  | [], _, S => .inr S
  | c :: cs, i, S => match rnO lf n np c c.2.2.2.1 S with
    | none => .inl i
    | some S' => ruO lf n np cs (i + 1) S'
end Ord1
