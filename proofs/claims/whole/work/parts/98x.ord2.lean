/-! ===== orders: the reference runs a clause ===== -/
def kHi (M M' : sp_Mem) : Prop := ∀ i, 736 ≤ i → sp_I M' 108 i = sp_I M 108 i
theorem kHi_fr {A : List Nat} {B : List (Nat × Nat)} {M M' : sp_Mem} (hf : sp_fr A B M M') (hd : dj [108] [] A B = true) : kHi M M' := fun i _ => by rw [fr_A hf hd 108 (by decide)]
theorem kHi.tr {M M1 M2 : sp_Mem} (h : kHi M M1) (h2 : kHi M1 M2) : kHi M M2 := fun i hi => (h2 i hi).trans (h i hi)
section Hi
variable {F u : Nat} {M M' : sp_Mem} {d : Int32}
theorem rem_hi (hF : 1000 ≤ F) (b1 : sp_I M 103 8 = nI u) (hu : u ≤ 16) (h : fX11_remember F M d = some M') : kHi M M' := by
  have j77 : ∀ (M1 : sp_Mem) (v : Nat), v < 16 → sp_I M1 103 8 = nI v → fX11_remember_j77 F d M1 = some M' → kHi M1 M' := by
    intro M1 v hv c1 hj i hi
    unfold fX11_remember_j77 at hj
    simp only [sp_do] at hj
    rw [c1, keep_e hF (by omega), Option.bind_some, I_cpy_ne (by decide), c1, sp_ix_nI hv (by omega), Option.bind_some] at hj
    have hj := Option.some.inj hj
    rw [← hj, I_ne _ _ _ (by decide), I_ne _ _ _ (by decide), I_cpy, if_neg (by omega)]
  unfold fX11_remember at h
  rw [b1] at h
  by_cases h16 : u = 16
  · rw [if_pos (show nI u = 16 by rw [h16]; rfl)] at h
    have e1 := rm_l11 (F := F) (M := M) (a1 := d) (kx := fun b11 M10 => fX11_remember_l41 F (fun b17 M16 => sp_do (sp_setI M16 103 8 (sp_I M16 103 8 - 1)) fun M18 => fX11_remember_j77 F b17 M18) F b11 0 M10) 690 0 F (by omega) (by omega)
    rw [cpy_0] at e1
    have e1 : fX11_remember_l11 F _ F d 0 M = _ := e1
    rw [e1] at h
    have e2 := rm_l41 (F := F) (M := sp_cpy M 108 108 46 0 690) (a1 := d) (kx := fun b17 M16 => sp_do (sp_setI M16 103 8 (sp_I M16 103 8 - 1)) fun M18 => fX11_remember_j77 F b17 M18) 15 0 F (by omega) (by omega)
    rw [cpy_0] at e2
    have e2 : fX11_remember_l41 F _ F d 0 (sp_cpy M 108 108 46 0 690) = _ := e2
    rw [e2] at h
    simp only [sp_do] at h
    rw [I_cpy_ne (by decide), I_cpy_ne (by decide), b1, show nI u - 1 = nI 15 by rw [h16]; rfl] at h
    have := j77 _ 15 (by omega) (I_eq _ _ _ _) h
    intro i hi
    rw [this i hi, I_ne _ _ _ (by decide), I_cpy_ne (by decide), I_cpy, if_neg (by omega)]
  · rw [if_neg (show ¬ nI u = 16 by rw [show (16 : Int32) = nI 16 from rfl, nI_eq (by omega) (by omega)]; exact h16)] at h
    exact j77 M u (by omega) b1 h
theorem act_hi {a1 a2 a3 : Int32} {p : Int32 × sp_Mem} (hF : 1000 ≤ F) (b1 : sp_I M 103 8 = nI u) (hu : u ≤ 16) (h : fX11_act F M a1 a2 a3 = some p) : kHi M p.2 := by
  have refl : kHi M M := fun _ _ => rfl
  unfold fX11_act at h
  by_cases c1 : a1 = 0
  · rw [if_pos c1] at h
    obtain ⟨x, hx, h⟩ := Option.bind_eq_some_iff.mp h
    cases h
    unfold fX11_callNow at hx
    obtain ⟨v1, _, hx⟩ := Option.bind_eq_some_iff.mp hx
    by_cases z : v1 = 0
    · rw [if_pos z] at hx; cases hx; exact refl
    rw [if_neg z] at hx
    obtain ⟨v3, _, hx⟩ := Option.bind_eq_some_iff.mp hx
    by_cases z3 : v3 = 0
    · rw [if_pos z3] at hx; cases hx; exact refl
    rw [if_neg z3] at hx
    obtain ⟨x5, h5, hx⟩ := Option.bind_eq_some_iff.mp hx
    have k5 := frX11_canCall h5
    by_cases z5 : x5.1 = 0
    · rw [if_pos z5] at hx; cases hx; exact kHi_fr k5 (by decide)
    rw [if_neg z5] at hx
    obtain ⟨M7, h7, hx⟩ := Option.bind_eq_some_iff.mp hx
    obtain ⟨j8, _, hx⟩ := Option.bind_eq_some_iff.mp hx
    obtain ⟨j9, _, hx⟩ := Option.bind_eq_some_iff.mp hx
    obtain ⟨v10, _, hx⟩ := Option.bind_eq_some_iff.mp hx
    obtain ⟨M11, h11, hx⟩ := Option.bind_eq_some_iff.mp hx
    cases hx
    exact ((kHi_fr k5 (by decide)).tr (rem_hi hF ((k5.1 103 8 (by decide) (by decide)).trans b1) hu h7)).tr (kHi_fr (frX11_callIt h11) (by decide))
  rw [if_neg c1] at h
  by_cases c2 : a1 = 1
  · rw [if_pos c2] at h
    obtain ⟨x, hx, h⟩ := Option.bind_eq_some_iff.mp h
    cases h
    unfold fX11_walkNow at hx
    by_cases z : fX11_in (Int32.toInt64 a3) 1 4 = 0
    · rw [if_pos z] at hx; cases hx; exact refl
    rw [if_neg z] at hx
    obtain ⟨v2, _, hx⟩ := Option.bind_eq_some_iff.mp hx
    by_cases z2 : v2 = 0
    · rw [if_pos z2] at hx; cases hx; exact refl
    rw [if_neg z2] at hx
    obtain ⟨v4, _, hx⟩ := Option.bind_eq_some_iff.mp hx
    by_cases z4 : v4 = 0
    · rw [if_pos z4] at hx; cases hx; exact refl
    rw [if_neg z4] at hx
    obtain ⟨M6, h6, hx⟩ := Option.bind_eq_some_iff.mp hx
    obtain ⟨j7, _, hx⟩ := Option.bind_eq_some_iff.mp hx
    obtain ⟨v8, _, hx⟩ := Option.bind_eq_some_iff.mp hx
    obtain ⟨j9, _, hx⟩ := Option.bind_eq_some_iff.mp hx
    simp only [sp_do] at hx
    obtain ⟨j11, _, hx⟩ := Option.bind_eq_some_iff.mp hx
    cases hx
    exact (rem_hi hF b1 hu h6).tr (fun i _ => by rw [I_ne _ _ _ (by decide)])
  rw [if_neg c2] at h
  by_cases c3 : a1 = 2
  · rw [if_pos c3] at h
    obtain ⟨x, hx, h⟩ := Option.bind_eq_some_iff.mp h
    cases h
    unfold fX11_wetNow at hx
    by_cases z : fX11_isCell a2 = 0
    · rw [if_pos z] at hx; cases hx; exact refl
    rw [if_neg z] at hx
    obtain ⟨j2, _, hx⟩ := Option.bind_eq_some_iff.mp hx
    simp only [sp_do] at hx
    by_cases z1 : sp_I M 105 j2 = 1
    · rw [if_pos z1] at hx; cases hx; exact refl
    rw [if_neg z1] at hx
    by_cases z3 : sp_I M 105 j2 = 3
    · rw [if_pos z3] at hx; cases hx; exact refl
    rw [if_neg z3] at hx
    obtain ⟨M6, h6, hx⟩ := Option.bind_eq_some_iff.mp hx
    obtain ⟨j7, _, hx⟩ := Option.bind_eq_some_iff.mp hx
    cases hx
    exact (rem_hi hF b1 hu h6).tr (fun i _ => by rw [I_ne _ _ _ (by decide)])
  rw [if_neg c3] at h
  obtain ⟨x, hx, h⟩ := Option.bind_eq_some_iff.mp h
  cases h
  unfold fX11_passNow at hx
  by_cases z : sp_I M 105 5 = 999
  · rw [if_pos z] at hx; cases hx; exact refl
  rw [if_neg z] at hx
  obtain ⟨M2, h2, hx⟩ := Option.bind_eq_some_iff.mp hx
  obtain ⟨M3, h3, hx⟩ := Option.bind_eq_some_iff.mp hx
  cases hx
  exact (rem_hi hF b1 hu h2).tr (kHi_fr (frX11_passIt h3) (by decide))
end Hi
theorem suO_e {lf : Option (List ev_C)} {n np : Nat} {c : GC} {S : OS} (h : sumsOk c) : suO 0 lf n np c S = suO (-1) lf n np c S := by
  obtain ⟨h1, h2, h3, _⟩ := h
  have dO : ∀ a b a' b', dD lf S.1 n np c.1 a b = dD lf S.1 n np c.1 a' b' → doO lf n np c S a b = doO lf n np c S a' b' := by
    intro a b a' b' he
    unfold doO
    rw [he]
  unfold suO
  by_cases c02 : c.1 = 0 ∨ c.1 = 2
  · rw [vI_d (d := 0) (d' := -1) (h2 c02).1, vI_d (d := 0) (d' := -1) (h2 c02).2]
  · by_cases c1 : c.1 = 1
    · rw [vI_d (d := 0) (d' := -1) (h3 c1)]
      cases hv : vI (-1) c.2.1 (wdO S.1 n S.2.2.2.1 S.2.2.2.2) with
      | none => rfl
      | some a =>
        dsimp only
        cases ho : c.2.2.1 with
        | none => exact dO _ _ _ _ (dD_1 c1)
        | some f => rfl
    · have c3 : c.1 = 3 := by omega
      cases ho1 : c.2.1 with
      | none =>
        cases ho : c.2.2.1 with
        | none => exact dO _ _ _ _ (dD_3 c3)
        | some f =>
          show (match (f _).map Int64.toInt32 with | none => none | some b => doO lf n np c S 0 b) = (match (f _).map Int64.toInt32 with | none => none | some b => doO lf n np c S (-1) b)
          cases hf : (f (wdO S.1 n S.2.2.2.1 S.2.2.2.2)).map Int64.toInt32 with
          | none => rfl
          | some b => exact dO _ _ _ _ (dD_3 c3)
      | some g =>
        show (match (g _).map Int64.toInt32 with | none => none | some a => _) = (match (g _).map Int64.toInt32 with | none => none | some a => _)
        cases hg : (g (wdO S.1 n S.2.2.2.1 S.2.2.2.2)).map Int64.toInt32 with
        | none => rfl
        | some a =>
          dsimp only
          cases ho : c.2.2.1 with
          | none => exact dO _ _ _ _ (dD_3 c3)
          | some f => rfl
section Ord2
variable {F n np len : Nat} {M : sp_Mem} {cl : List GC} {c : GC} {lf : Option (List ev_C)} {W : Nat → Int64}
/-- the reference's words stand ready -/
def RWD (M : sp_Mem) (W : Nat → Int64) : Prop := sp_I M 103 20 = 0 ∧ (∀ i, i < 4 → sp_L M 122 (i + 1) = W i) ∧ ∃ ns, ns ≤ 6 ∧ sp_I M 105 0 = nI ns ∧ ∀ k, k < 6 → W (4 + k) = (if k < ns then Int32.toInt64 (sp_I M 105 (15 + k)) else -1) ∧ W (10 + k) = (if k < ns then Int32.toInt64 (sp_I M 105 (9 + k)) else -1)
abbrev sfr (M M' : sp_Mem) : Prop := sp_fr [123] [(103, 20), (103, 38), (103, 39), (103, 51)] M M'
theorem RWD_fr {M M' : sp_Mem} (hf : sfr M M') (h20 : sp_I M' 103 20 = 0) (h : RWD M W) : RWD M' W := by
  obtain ⟨_, h2, h3⟩ := h
  refine ⟨h20, fun i hi => by rw [hf.2.1 122 (i + 1) (by decide) (by simp)]; exact h2 i hi, ?_⟩
  have e : sp_I M' 105 = sp_I M 105 := fr_A (SA := [105]) (SB := []) hf (by decide) 105 (by decide)
  rw [e]
  exact h3
theorem sumO_r {e lim : Nat} {o : Option ev_S} (hF : 1000 ≤ F) (h : RWD M W) (h51 : sp_I M 103 51 = 0) (he : e + 1 < 96) (hl : lim ≤ 400) (ho : ev_RO 1 16 (sp_I M 114) (sp_I M 115) lim (sp_I M 130 e) (sp_I M 130 (e + 1)) o) : ∃ x M', fX11_sumOf F M (nI e) = some (x, M') ∧ sfr M M' ∧ sp_I M' 103 20 = 0 ∧ (vI (-1) o W = none → sp_I M' 103 51 = 1) ∧ (∀ a, vI (-1) o W = some a → sp_I M' 103 51 = 0 ∧ x = a) := by
  unfold fX11_sumOf
  rw [if_pos h51, sp_ix_nI (show e < 96 by omega) (by omega), Option.bind_some, nI_1, sp_ix_nI he (by omega), Option.bind_some]
  cases o with
  | none =>
    obtain ⟨p, hp, a, b⟩ := ho
    rw [a, b, if_pos rfl]
    exact ⟨-1, M, rfl, sp_fr.refl _ _ _, h.1, fun z => (by cases z), fun v z => (by cases z; exact ⟨h51, rfl⟩)⟩
  | some f =>
    obtain ⟨p, q, m, a, b, hq, hm, hS⟩ := ho
    have hpq : p < q := hS.1
    have hne : ¬ sp_I M 130 e = sp_I M 130 (e + 1) := by
      rw [a, b]
      exact fun w => by have := (nIe (by omega) (by omega)).1 w; omega
    let M5 := sp_setI M 103 20 1
    have f5 : sp_fr [] [(103, 20)] M M5 := sp_fr_I (Or.inr (by decide)) rfl
    obtain ⟨M8, e1, e2, e3, e4⟩ := ev_ref (F := F) (ord := 1) (gop := sp_I M 114) (garg := sp_I M 115) (lim := lim) (Nw := 16) (W := W) (M := M5) (p := p) (q := q) (n := m) (f := f) hF ⟨hl, Or.inr ⟨rfl, rfl, I_eq _ _ _ _, fun i hi => ⟨by rw [I_ne _ _ _ (by decide)], by rw [I_ne _ _ _ (by decide)]⟩, h.2.1, by
      rw [I_ne _ _ _ (by decide)]
      exact h.2.2⟩⟩ hq hS hm
    let M9 := sp_setI M8 103 20 0
    let M10 := sp_setI M9 103 51 (sp_I M8 103 38)
    have f10 : sfr M M10 := (((f5.mono (by decide) (by decide)).tr (e2.mono (by decide) (by decide))).tr (sp_fr_I (Or.inr (by decide)) rfl)).tr (sp_fr_I (Or.inr (by decide)) rfl)
    have v38 : sp_I M8 103 38 = 0 ∨ sp_I M8 103 38 = 1 := by
      cases hf : f W with
      | none => exact Or.inr (e3 hf)
      | some v => exact Or.inl (e4 v hf).1
    refine ⟨Int64.toInt32 (sp_L M8 103 39), M10, ?_, f10, ?_, fun z => ?_, fun v z => ?_⟩
    · rw [if_neg hne]
      simp only [sp_do]
      rw [Option.bind_some, Option.bind_some]
      have q1 : sp_I (sp_setI M 103 20 1) 130 e = nI p := (congrFun (I_ne _ _ _ (by decide)) e).trans a
      have q2 : sp_I (sp_setI M 103 20 1) 130 (e + 1) = nI q := (congrFun (I_ne _ _ _ (by decide)) (e + 1)).trans b
      rw [q1, q2, show fX11_reckonAll F (sp_setI M 103 20 1) (nI p) (nI q) = some M8 from e1, Option.bind_some, show sp_I (sp_setI M8 103 20 0) 103 38 = sp_I M8 103 38 from I_nf _ _ _ (by decide), show sp_b01 (sp_I M8 103 38) = some () from if_pos v38, Option.bind_some]
      rfl
    · rw [I_nf _ _ _ (by decide)]; exact I_eq _ _ _ _
    · have z : (f W).map Int64.toInt32 = none := z
      cases hf : f W with
      | none => rw [I_eq]; exact e3 hf
      | some v => rw [hf] at z; cases z
    · have z : (f W).map Int64.toInt32 = some v := z
      cases hf : f W with
      | none => rw [hf] at z; cases z
      | some w =>
        rw [hf] at z
        obtain ⟨a1, a2⟩ := e4 w hf
        refine ⟨by rw [I_eq]; exact a1, ?_⟩
        rw [a2]
        exact Option.some.inj z
/-- the reference in the midst of orders -/
def ORR (F : Nat) (M : sp_Mem) (len : Nat) (cl : List GC) (S : OS) (lf : Option (List ev_C)) (n : Nat) : Prop := RX F M S.1 lf n 999 ∧ PR M S.2.1 S.2.2.1 ∧ sp_I M 103 48 = nI S.2.2.2.1 ∧ sp_I M 103 49 = S.2.2.2.2 ∧ pOW M len cl ∧ len ≤ 400 ∧ cl.length ≤ 12
theorem ORR_s {M M' : sp_Mem} {S : OS} (hf : sfr M M') (h20 : sp_I M' 103 20 = 0) (h : ORR F M len cl S lf n) : ORR F M' len cl S lf n := by
  obtain ⟨h1, h2, h3, h4, h5, h6⟩ := h
  exact ⟨RX_of h1 (by rw [h20, h1.2.1]) (fr_A (SA := [105]) (SB := []) hf (by decide) 105 (by decide)), PR_fr h2 hf (by decide) (by simp) (by simp), (hf.1 103 48 (by decide) (by decide)).trans h3, (hf.1 103 49 (by decide) (by decide)).trans h4, pOW_fr (by decide) hf h5, h6⟩
theorem act_r {S : OS} {B : Nat} {r0 : Nat → Int32} (h : ORR F M len cl S lf n) (hS : SOK r0 n np S B) (hc : c.1 < 4) (a b : Int32) : ∃ M', fX11_act F M (nI (vp c.1)) a b = some (tv (dD lf S.1 n np c.1 a b), M') ∧ dAR F M' S.2.1 S.2.2.1 S.1 lf n (nI c.1) (dD lf S.1 n np c.1 a b) := by
  obtain ⟨k1, k2, k3, k4, k5, k6, k7, k8, k9, k10, k11⟩ := hS
  have dd0 : ∀ dd, dd = 0 → dD lf S.1 n np dd a b = dCall lf S.1 n np a b := fun dd h => by unfold dD; rw [if_pos h]
  have dd1 : ∀ dd, dd = 1 → dD lf S.1 n np dd a b = dWet S.1 a := fun dd h => by unfold dD; rw [if_neg (by omega), if_pos h]
  have dd2 : ∀ dd, dd = 2 → dD lf S.1 n np dd a b = dWalk S.1 np a b := fun dd h => by unfold dD; rw [if_neg (by omega), if_neg (by omega), if_pos h]
  have dd3 : ∀ dd, dd = 3 → dD lf S.1 n np dd a b = dPass lf S.1 n := fun dd h => by unfold dD; rw [if_neg (by omega), if_neg (by omega), if_neg (by omega)]
  have : c.1 = 0 ∨ c.1 = 1 ∨ c.1 = 2 ∨ c.1 = 3 := by omega
  rcases this with e | e | e | e
  · obtain ⟨M', e1, e2⟩ := callNow_r h.1 h.2.1 k2 k10 k11 a b
    rw [dd0 _ e, e]
    refine ⟨M', ?_, e2⟩
    unfold fX11_act
    rw [if_pos (show nI (vp 0) = 0 from rfl), e1, Option.bind_some]
  · obtain ⟨M', e1, e2⟩ := wetNow_r h.1 h.2.1 k2 a
    rw [dd1 _ e, e]
    refine ⟨M', ?_, e2⟩
    unfold fX11_act
    rw [if_neg (show ¬ nI (vp 1) = 0 by decide), if_neg (show ¬ nI (vp 1) = 1 by decide), if_pos (show nI (vp 1) = 2 from rfl), e1, Option.bind_some]
  · obtain ⟨M', e1, e2⟩ := walkNow_r h.1 h.2.1 k2 k10 k11 a b
    rw [dd2 _ e, e]
    refine ⟨M', ?_, e2⟩
    unfold fX11_act
    rw [if_neg (show ¬ nI (vp 2) = 0 by decide), if_pos (show nI (vp 2) = 1 from rfl), e1, Option.bind_some]
  · obtain ⟨M', e1, e2⟩ := passNow_r h.1 h.2.1 k2
    rw [dd3 _ e, e]
    refine ⟨M', ?_, e2⟩
    unfold fX11_act
    rw [if_neg (show ¬ nI (vp 3) = 0 by decide), if_neg (show ¬ nI (vp 3) = 1 by decide), if_neg (show ¬ nI (vp 3) = 2 by decide), e1, Option.bind_some]
theorem j95_r {i B : Nat} {S : OS} {r0 : Nat → Int32} (hF : 1000 ≤ F) (hc : cl[i]? = some c) (hs : sumsOk c) (h : ORR F M len cl S lf n) (hS : SOK r0 n np S B) (hw : RWD M (wdO S.1 n S.2.2.2.1 S.2.2.2.2)) (h51 : sp_I M 103 51 = 0) :
  (suO (-1) lf n np c S = none → ∃ M', fX11_run_j95 F (nI (8 * i)) M = some (-3, M') ∧ kHi M M' ∧ ORR F M' len cl S lf n) ∧
  (∀ S', suO (-1) lf n np c S = some S' → ∃ M', fX11_run_j95 F (nI (8 * i)) M = some (0, M') ∧ kHi M M' ∧ ORR F M' len cl S' lf n) := by
  have hi12 : i < 12 := by
    have := (List.getElem?_eq_some_iff.mp hc).1
    have := h.2.2.2.2.2.2
    omega
  have hS' := hS
  obtain ⟨k1, k2, k3, k4, k5, k6, k7, k8, k9, k10, k11⟩ := hS
  obtain ⟨c0, c1, c2, c3, c4⟩ := h.2.2.2.2.1 i c hc
  obtain ⟨x, M1, u1, u2, u20, u3, u4⟩ := sumO_r (e := 8 * i + 1) (o := c.2.1) hF hw h51 (by omega) h.2.2.2.2.2.1 c1
  have h1 := ORR_s u2 u20 h
  have w1 := RWD_fr u2 u20 hw
  have g1 : kHi M M1 := kHi_fr u2 (by decide)
  have i1 : nI (8 * i) + 1 = nI (8 * i + 1) := nI_add _ 1
  have i3 : nI (8 * i) + 3 = nI (8 * i + 3) := nI_add _ 3
  have i0 : sp_ix 96 (nI (8 * i)) = some (8 * i) := sp_ix_nI (by omega) (by omega)
  unfold suO
  cases hv1 : vI (-1) c.2.1 (wdO S.1 n S.2.2.2.1 S.2.2.2.2) with
  | none =>
    refine ⟨fun _ => ⟨M1, ?_, g1, h1⟩, fun S' z => (by cases z)⟩
    have e51 := u3 hv1
    unfold fX11_run_j95
    rw [i1, u1, Option.bind_some]
    dsimp only
    have s2 : fX11_sumOf F M1 (nI (8 * i) + 3) = some (-1, M1) := by
      unfold fX11_sumOf
      rw [if_neg (show ¬ sp_I M1 103 51 = 0 by rw [e51]; decide)]
    rw [s2, Option.bind_some]
    dsimp only
    rw [if_neg (show ¬ sp_I M1 103 51 = 0 by rw [e51]; decide)]
  | some a =>
    obtain ⟨e51, rfl⟩ := u4 a hv1
    obtain ⟨y, M2, v1, v2, v20, v3, v4⟩ := sumO_r (e := 8 * i + 3) (o := c.2.2.1) hF w1 e51 (by omega) h.2.2.2.2.2.1 (by
      rw [fr_A (SA := [114]) (SB := []) u2 (by decide) 114 (by decide), fr_A (SA := [115]) (SB := []) u2 (by decide) 115 (by decide), fr_A (SA := [130]) (SB := []) u2 (by decide) 130 (by decide)]
      exact c2)
    have h2 := ORR_s v2 v20 h1
    have g2 : kHi M M2 := g1.tr (kHi_fr v2 (by decide))
    have pre : fX11_run_j95 F (nI (8 * i)) M = (if (sp_I M2 103 51) = 0 then ((fX11_act F M2 (sp_I M2 130 (8 * i)) x y).bind fun x15 => if 0 ≤ x15.1 then ((if (sp_I x15.2 130 (8 * i)) = 0 then (fX11_run_j162 F x15.1 x15.2) else (fX11_run_j162 F (sp_I x15.2 103 49) x15.2))) else (some ((-3), x15.2))) else (some ((-3), M2))) := by
      unfold fX11_run_j95
      rw [i1, u1, Option.bind_some]
      dsimp only
      rw [i3, v1, Option.bind_some]
      dsimp only
      rw [i0, Option.bind_some]
      rfl
    dsimp only
    cases hv2 : vI (-1) c.2.2.1 (wdO S.1 n S.2.2.2.1 S.2.2.2.2) with
    | none =>
      refine ⟨fun _ => ⟨M2, ?_, g2, h2⟩, fun S' z => (by cases z)⟩
      rw [pre, if_neg (show ¬ sp_I M2 103 51 = 0 by rw [v3 hv2]; decide)]
    | some b =>
      obtain ⟨f51, rfl⟩ := v4 b hv2
      obtain ⟨M3, p1, p2⟩ := act_r (c := c) h2 hS' hs.1 x y
      have fA := frX11_act p1
      have gA : kHi M M3 := g2.tr (act_hi hF h2.2.1.1 k2 p1)
      have e130 : sp_I M2 130 (8 * i) = nI (vp c.1) := (h2.2.2.2.2.1 i c hc).1
      have e130b : sp_I M3 130 (8 * i) = nI (vp c.1) := (congrFun (fr_A (SA := [130]) (SB := []) fA (by decide) 130 (by decide)) _).trans e130
      have dok := dD_ok (lf := lf) k1 k9 k11 c.1 x y
      rw [if_pos f51, e130, p1, Option.bind_some] at pre
      dsimp only at pre ⊢
      rw [e130b] at pre
      unfold doO
      unfold dAR at p2
      unfold dOk at dok
      unfold tv at pre
      cases hD : (dD lf S.1 n np c.1 x y).2 with
      | none =>
        rw [hD] at dok pre p2
        refine ⟨fun _ => ⟨M3, ?_, gA, p2.1, p2.2, (fA.1 103 48 (by decide) (by decide)).trans h2.2.2.1, (fA.1 103 49 (by decide) (by decide)).trans h2.2.2.2.1, pOW_fr (by decide) fA h2.2.2.2.2.1, h2.2.2.2.2.2⟩, fun S' z => (by cases z)⟩
        rw [pre]
        dsimp only
        rw [if_neg]
        intro z
        have := neg3 (dD lf S.1 n np c.1 x y).1 dok.1 (by omega)
        rw [n_le] at z
        rw [n_lt] at this
        omega
      | some z =>
        rw [hD] at dok pre p2
        refine ⟨fun w => (by cases w), fun S' e => ?_⟩
        cases e
        have ht : z.1 < 2000 := dok.1
        dsimp only at pre
        rw [if_pos (show (0 : Int32) ≤ nI z.1 from nI_le (a := 0) (by omega) (by omega))] at pre
        have q48 : sp_I M3 103 48 = nI S.2.2.2.1 := (fA.1 103 48 (by decide) (by decide)).trans h2.2.2.1
        have q49 : sp_I M3 103 49 = S.2.2.2.2 := (fA.1 103 49 (by decide) (by decide)).trans h2.2.2.2.1
        have gen : ∀ la, ∃ M', fX11_run_j162 F la M3 = some (0, M') ∧ kHi M M' ∧ ORR F M' len cl (z.2, pu S.2.1, pe S.2.1 S.2.2.1 (nI c.1, fun i => S.1 (5 + i)), S.2.2.2.1 + 1, la) lf n := by
          intro la
          let M4 := sp_setI M3 103 49 la
          let M5 := sp_setI M4 103 48 (nI (S.2.2.2.1 + 1))
          have f5 : sp_fr [] [(103, 48), (103, 49)] M3 M5 := (sp_fr_I (Or.inr (by decide)) rfl).tr (sp_fr_I (Or.inr (by decide)) rfl)
          refine ⟨M5, ?_, gA.tr (kHi_fr f5 (by decide)), RX_of p2.1 (f5.1 103 20 (by decide) (by decide)) (fr_A (SA := [105]) (SB := []) f5 (by decide) 105 (by decide)), PR_fr p2.2 f5 (by decide) (by simp) (by simp), I_eq _ _ _ _, ?_, pOW_fr (by decide) f5 (pOW_fr (by decide) fA h2.2.2.2.2.1), h2.2.2.2.2.2⟩
          · unfold fX11_run_j162
            simp only [sp_do]
            rw [show sp_I (sp_setI M3 103 49 la) 103 48 = nI S.2.2.2.1 from (I_nf _ _ _ (by decide)).trans q48, nI_1]
          · rw [I_nf _ _ _ (by decide)]; exact I_eq _ _ _ _
        by_cases hz : c.1 = 0
        · rw [if_pos (show nI (vp c.1) = 0 by rw [hz]; rfl)] at pre
          rw [if_pos hz, pre]
          exact gen _
        · have : ¬ nI (vp c.1) = 0 := fun w => by
            have hs1 := hs.1
            have : c.1 = 1 ∨ c.1 = 2 ∨ c.1 = 3 := by omega
            rcases this with e | e | e <;> rw [e] at w <;> exact absurd w (by decide)
          rw [if_neg this, q49] at pre
          rw [if_neg hz, pre]
          exact gen _
theorem run_r1 {i B : Nat} {S : OS} {r0 : Nat → Int32} (hF : 1000 ≤ F) (hc : cl[i]? = some c) (hs : sumsOk c) (hT : tT c) (h : ORR F M len cl S lf n) (hS : SOK r0 n np S B) :
  (itr lf n np c S = none → ∃ M', fX11_run F M (nI (8 * i)) = some (-3, M') ∧ kHi M M' ∧ ORR F M' len cl S lf n) ∧
  (∀ S', itr lf n np c S = some S' → ∃ M', fX11_run F M (nI (8 * i)) = some (0, M') ∧ kHi M M' ∧ ORR F M' len cl S' lf n) := by
  have hi12 : i < 12 := by
    have := (List.getElem?_eq_some_iff.mp hc).1
    have := h.2.2.2.2.2.2
    omega
  have k8 := hS.2.2.2.2.2.2.2.1
  have k9 := hS.2.2.2.2.2.2.2.2.1
  obtain ⟨h1, h2, h3, h4, h5, h6⟩ := h
  have hr : ∀ j, sp_I M 105 j = S.1 j := RX_r h1
  let M1 := sp_setL M 122 1 (Int32.toInt64 (S.1 5))
  let M2 := sp_setL M1 122 2 (Int32.toInt64 (nI S.2.2.2.1))
  let M3 := sp_setL M2 122 3 (Int32.toInt64 S.2.2.2.2)
  let M6 := sp_setL M3 122 4 (Int32.toInt64 (nI (lsn S.1 n)))
  let M7 := sp_setI M6 103 51 0
  have f7 : sp_fr [122] [(103, 51)] M M7 := ((((sp_fr_L (Or.inl (by decide)) rfl).tr (sp_fr_L (Or.inl (by decide)) rfl)).tr (sp_fr_L (Or.inl (by decide)) rfl)).tr (sp_fr_L (Or.inl (by decide)) rfl)).tr (sp_fr_I (Or.inr (by decide)) rfl)
  have g7 : kHi M M7 := kHi_fr f7 (by decide)
  have o7 : ORR F M7 len cl S lf n := ⟨RX_of h1 (f7.1 103 20 (by decide) (by decide)) (fr_A (SA := [105]) (SB := []) f7 (by decide) 105 (by decide)), PR_fr h2 f7 (by decide) (by simp) (by simp), (f7.1 103 48 (by decide) (by decide)).trans h3, (f7.1 103 49 (by decide) (by decide)).trans h4, pOW_fr (by decide) f7 h5, h6⟩
  have e51 : sp_I M7 103 51 = 0 := I_eq _ _ _ _
  have w7 : RWD M7 (wdO S.1 n S.2.2.2.1 S.2.2.2.2) := by
    refine ⟨o7.1.2.1, fun j hj => ?_, n, k9, (RX_r o7.1 0).trans k8, fun k hk => ?_⟩
    · show sp_L M6 122 (j + 1) = _
      have : j = 0 ∨ j = 1 ∨ j = 2 ∨ j = 3 := by omega
      rcases this with rfl | rfl | rfl | rfl
      · rfl
      · rfl
      · rfl
      · rfl
    · rw [RX_r o7.1, RX_r o7.1]
      refine ⟨?_, ?_⟩
      · unfold wdO
        rw [if_neg (show ¬ 4 + k = 0 by omega), if_neg (show ¬ 4 + k = 1 by omega), if_neg (show ¬ 4 + k = 2 by omega), if_neg (show ¬ 4 + k = 3 by omega), if_pos (show 4 + k < 10 by omega), show 4 + k - 4 = k by omega]
      · unfold wdO
        rw [if_neg (show ¬ 10 + k = 0 by omega), if_neg (show ¬ 10 + k = 1 by omega), if_neg (show ¬ 10 + k = 2 by omega), if_neg (show ¬ 10 + k = 3 by omega), if_neg (show ¬ 10 + k < 10 by omega), show 10 + k - 10 = k by omega]
  have pre : fX11_run F M (nI (8 * i)) = (if (sp_I M7 130 (8 * i + 6)) ≤ (sp_I M7 130 (8 * i + 5)) then (fX11_run_j95 F (nI (8 * i)) M7) else ((fX11_sumOf F M7 (nI (8 * i + 5))).bind fun x21 => if (sp_I x21.2 103 51) = 0 then (if x21.1 = 0 then (some (0, x21.2)) else (fX11_run_j95 F (nI (8 * i)) x21.2)) else (some (0, x21.2)))) := by
    unfold fX11_run
    simp only [sp_do]
    have q5 : sp_I M 105 5 = S.1 5 := hr 5
    have q48 : sp_I (sp_setL M 122 1 (Int32.toInt64 (S.1 5))) 103 48 = nI S.2.2.2.1 := h3
    have q49 : sp_I (sp_setL (sp_setL M 122 1 (Int32.toInt64 (S.1 5))) 122 2 (Int32.toInt64 (nI S.2.2.2.1))) 103 49 = S.2.2.2.2 := h4
    rw [q5, q48, q49]
    have lo : fX11_looseOnes F M3 = some (nI (lsb S.1 n)) := loose_r hF (fun j => hr j) k8 k9
    rw [show fX11_looseOnes F (sp_setL (sp_setL (sp_setL M 122 1 (Int32.toInt64 (S.1 5))) 122 2 (Int32.toInt64 (nI S.2.2.2.1))) 122 3 (Int32.toInt64 S.2.2.2.2)) = some (nI (lsb S.1 n)) from lo, Option.bind_some, loose_o hF k9, Option.bind_some, show nI (8 * i) + 5 = nI (8 * i + 5) from nI_add _ 5, show nI (8 * i) + 6 = nI (8 * i + 6) from nI_add _ 6, sp_ix_nI (show 8 * i + 5 < 96 by omega) (by omega), Option.bind_some, sp_ix_nI (show 8 * i + 6 < 96 by omega) (by omega), Option.bind_some]
  obtain ⟨c0, c1, c2, c3, c4⟩ := o7.2.2.2.2.1 i c hc
  rw [pre]
  unfold itr
  rw [suO_e hs]
  cases ho : c.2.2.2.2 with
  | none =>
    rw [ho] at c3
    obtain ⟨p, hp, a, b⟩ := c3
    rw [a, b, if_pos (Int32.le_refl _), if_neg (show ¬ tsO none (wdO S.1 n S.2.2.2.1 S.2.2.2.2) = false from fun w => (by cases w))]
    have J := j95_r (M := M7) hF hc hs o7 hS w7 e51
    refine ⟨fun z => ?_, fun S' z => ?_⟩
    · obtain ⟨M', s1, s2, s3⟩ := J.1 z
      exact ⟨M', s1, g7.tr s2, s3⟩
    · obtain ⟨M', s1, s2, s3⟩ := J.2 S' z
      exact ⟨M', s1, g7.tr s2, s3⟩
  | some f =>
    have c3' := c3
    rw [ho] at c3 c3'
    obtain ⟨p, q, m, a, b, hq, hm, hSeg⟩ := c3
    have hpq : p < q := hSeg.1
    have hl := h6.1
    have hne : ¬ sp_I M7 130 (8 * i + 6) ≤ sp_I M7 130 (8 * i + 5) := by
      rw [a, b]
      exact nI_ge hpq (by omega)
    obtain ⟨x, M8, u1, u2, u20, u3, u4⟩ := sumO_r (e := 8 * i + 5) (o := some f) hF w7 e51 (by omega) hl c3'
    have o8 := ORR_s u2 u20 o7
    have w8 := RWD_fr u2 u20 w7
    have g8 : kHi M M8 := g7.tr (kHi_fr u2 (by decide))
    rw [if_neg hne, u1, Option.bind_some]
    dsimp only
    cases hf : f (wdO S.1 n S.2.2.2.1 S.2.2.2.2) with
    | none =>
      have t0 : tsO (some f) (wdO S.1 n S.2.2.2.1 S.2.2.2.2) = false := by
        unfold tsO
        dsimp only
        rw [hf]
        decide
      have z51 := u3 (show (f _).map Int64.toInt32 = none by rw [hf]; rfl)
      rw [if_pos t0, if_neg (show ¬ sp_I M8 103 51 = 0 by rw [z51]; decide)]
      refine ⟨fun z => (by cases z), fun S' z => ?_⟩
      cases z
      exact ⟨M8, rfl, g8, o8⟩
    | some v =>
      obtain ⟨z51, zx⟩ := u4 (Int64.toInt32 v) (show (f _).map Int64.toInt32 = _ by rw [hf]; rfl)
      rw [if_pos z51, zx]
      rcases hT f ho _ v hf with rfl | rfl
      · have t0 : tsO (some f) (wdO S.1 n S.2.2.2.1 S.2.2.2.2) = false := by
          unfold tsO
          dsimp only
          rw [hf]
          decide
        rw [if_pos t0, if_pos (by decide)]
        refine ⟨fun z => (by cases z), fun S' z => ?_⟩
        cases z
        exact ⟨M8, rfl, g8, o8⟩
      · have t1 : ¬ tsO (some f) (wdO S.1 n S.2.2.2.1 S.2.2.2.2) = false := by
          unfold tsO
          dsimp only
          rw [hf]
          decide
        rw [if_neg t1, if_neg (by decide)]
        have J := j95_r (M := M8) hF hc hs o8 hS w8 z51
        refine ⟨fun z => ?_, fun S' z => ?_⟩
        · obtain ⟨M', s1, s2, s3⟩ := J.1 z
          exact ⟨M', s1, g8.tr s2, s3⟩
        · obtain ⟨M', s1, s2, s3⟩ := J.2 S' z
          exact ⟨M', s1, g8.tr s2, s3⟩
end Ord2
