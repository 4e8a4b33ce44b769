/-! ===== law: read and kept ===== -/
section Tri
variable {Y : sp_Mem} {t n1 n2 : Nat}
theorem tri_n : sp_n (sp_tri (sp_new Y 13 0) (sp_n Y) t n1 n2) = sp_n Y + 3 := by
  unfold sp_tri
  rw [sp_n_setI, sp_n_setI, sp_n_setP, sp_n_cpo, sp_n_setP, sp_n_cpo, sp_n_new]
theorem tri_old {i : Nat} (hi : i < sp_n Y) : sp_I (sp_tri (sp_new Y 13 0) (sp_n Y) t n1 n2) i = sp_I Y i ∧ sp_L (sp_tri (sp_new Y 13 0) (sp_n Y) t n1 n2) i = sp_L Y i ∧ sp_P (sp_tri (sp_new Y 13 0) (sp_n Y) t n1 n2) i = sp_P Y i ∧ sp_N (sp_tri (sp_new Y 13 0) (sp_n Y) t n1 n2) i = sp_N Y i ∧ sp_T (sp_tri (sp_new Y 13 0) (sp_n Y) t n1 n2) i = sp_T Y i := by
  have hne : i ≠ sp_n Y := by omega
  refine ⟨funext fun j => ?_, funext fun j => ?_, funext fun j => ?_, ?_, ?_⟩
  · unfold sp_tri
    rw [sp_I_setI, if_neg (fun z => hne z.1), sp_I_setI, if_neg (fun z => hne z.1), sp_I_setP, sp_I_cpo _ _ _ _ _ (by rw [sp_n_setP, sp_n_cpo, sp_n_new]; omega), sp_I_setP, sp_I_cpo _ _ _ _ _ (by rw [sp_n_new]; omega), sp_I_new, if_neg hne]
  · unfold sp_tri
    rw [sp_L_setI, sp_L_setI, sp_L_setP, sp_L_cpo _ _ _ _ _ (by rw [sp_n_setP, sp_n_cpo, sp_n_new]; omega), sp_L_setP, sp_L_cpo _ _ _ _ _ (by rw [sp_n_new]; omega), sp_L_new, if_neg hne]
  · unfold sp_tri
    rw [sp_P_setI, sp_P_setI, sp_P_setP, if_neg (fun z => hne z.1), sp_P_cpo, if_neg (by rw [sp_n_setP, sp_n_cpo, sp_n_new]; omega), sp_P_setP, if_neg (fun z => hne z.1), sp_P_cpo, if_neg (by rw [sp_n_new]; omega), sp_P_new, if_neg hne]
  · unfold sp_tri
    rw [sp_N_setI, sp_N_setI, sp_N_setP, sp_N_cpo, if_neg (by rw [sp_n_setP, sp_n_cpo, sp_n_new]; omega), sp_N_setP, sp_N_cpo, if_neg (by rw [sp_n_new]; omega), sp_N_new, if_neg hne]
  · unfold sp_tri
    rw [sp_T_setI, sp_T_setI, sp_T_setP, sp_T_cpo, if_neg (by rw [sp_n_setP, sp_n_cpo, sp_n_new]; omega), sp_T_setP, sp_T_cpo, if_neg (by rw [sp_n_new]; omega), sp_T_new, if_neg hne]
theorem tri_new (ht : t + 2 < sp_n Y) : sp_I (sp_tri (sp_new Y 13 0) (sp_n Y) t n1 n2) (sp_n Y) 2 = sp_I Y t 2 ∧ sp_I (sp_tri (sp_new Y 13 0) (sp_n Y) t n1 n2) (sp_n Y) 3 = sp_I Y t 3 ∧ (∀ j, j < n1 → sp_I (sp_tri (sp_new Y 13 0) (sp_n Y) t n1 n2) (sp_n Y + 1) j = sp_I Y (t + 1) j) ∧ (∀ j, j < n2 → sp_I (sp_tri (sp_new Y 13 0) (sp_n Y) t n1 n2) (sp_n Y + 2) j = sp_I Y (t + 2) j) ∧ sp_N (sp_tri (sp_new Y 13 0) (sp_n Y) t n1 n2) (sp_n Y + 1) = n1 ∧ sp_N (sp_tri (sp_new Y 13 0) (sp_n Y) t n1 n2) (sp_n Y + 2) = n2 := by
  have o : ∀ j, sp_I (sp_new Y 13 0) t j = sp_I Y t j := fun j => by rw [sp_I_new, if_neg (by omega)]
  refine ⟨?_, ?_, fun j hj => ?_, fun j hj => ?_, ?_, ?_⟩
  · unfold sp_tri
    rw [sp_I_setI, if_neg (fun z => by cases z.2), sp_I_setI, if_pos ⟨rfl, rfl⟩, o]
  · unfold sp_tri
    rw [sp_I_setI, if_pos ⟨rfl, rfl⟩, o]
  · unfold sp_tri
    rw [sp_I_setI, if_neg (fun z => by have := z.1; omega), sp_I_setI, if_neg (fun z => by have := z.1; omega), sp_I_setP, sp_I_cpo _ _ _ _ _ (by rw [sp_n_setP, sp_n_cpo, sp_n_new]; omega), sp_I_setP]
    have := sp_I_cpo_in (sp_new Y 13 0) (a := t + 1) (n := n1) (j := j) (by rw [sp_n_new]; omega) hj
    rw [sp_n_new] at this
    rw [this, sp_I_new, if_neg (by omega)]
  · unfold sp_tri
    rw [sp_I_setI, if_neg (fun z => by have := z.1; omega), sp_I_setI, if_neg (fun z => by have := z.1; omega), sp_I_setP]
    have := sp_I_cpo_in (sp_setP (sp_cpo (sp_new Y 13 0) (t + 1) n1) (sp_n Y) 0 (some (sp_n (sp_new Y 13 0)))) (a := t + 2) (n := n2) (j := j) (by rw [sp_n_setP, sp_n_cpo, sp_n_new]; omega) hj
    rw [sp_n_setP, sp_n_cpo, sp_n_new] at this
    rw [sp_n_new, show sp_n Y + 2 = sp_n Y + 1 + 1 from rfl, this, sp_I_setP, sp_I_cpo _ _ _ _ _ (by rw [sp_n_new]; omega), sp_I_new, if_neg (by omega)]
  · unfold sp_tri
    rw [sp_N_setI, sp_N_setI, sp_N_setP, sp_N_cpo, if_neg (by rw [sp_n_setP, sp_n_cpo, sp_n_new]; omega), sp_N_setP, sp_N_cpo, if_pos (by rw [sp_n_new])]
  · unfold sp_tri
    rw [sp_N_setI, sp_N_setI, sp_N_setP, sp_N_cpo, if_pos (by rw [sp_n_setP, sp_n_cpo, sp_n_new])]
end Tri
def gE (c : GC) : ev_C := (c.1, c.2.1, c.2.2.2.2)
/-- class's text and reference's words say the same -/
theorem LR_of {H stp H1 stp1 H3 g4 g5 q' : Nat → Int32} {len len' : Nat} {cl : List GC} (h12 : cl.length ≤ 12) (hl : len ≤ 400) (hl' : len' ≤ 400) (hG : CLG 10 H stp len cl) (hP : RLW H3 g4 g5 len' cl) (hT : ∀ c ∈ cl, tT c) (hp : ∀ c ∈ cl, c.1 < 4 ∧ (c.2.1 = none ↔ 2 ≤ c.1)) (e1 : ∀ j, j < 5 * cl.length → H1 j = H j) (e2 : ∀ j, j < len → stp1 j = stp j) (q1 : q' 1 = nI cl.length) (q2 : ∀ i, i < 8 * cl.length → q' (2 + i) = H3 i) (q3 : ∀ i, i < len' → q' (98 + 2 * i) = g4 i ∧ q' (98 + 2 * i + 1) = g5 i) : LR H1 stp1 (nI cl.length) (nI len) (5 * cl.length) len q' := by
  have get : ∀ i c, (cl.map gE)[i]? = some c → ∃ x, cl[i]? = some x ∧ c = gE x ∧ i < cl.length ∧ x ∈ cl := by
    intro i c h
    rw [List.getElem?_map] at h
    cases hx : cl[i]? with
    | none => rw [hx] at h; cases h
    | some x =>
      rw [hx] at h
      have hlt := (List.getElem?_eq_some_iff.mp hx).1
      exact ⟨x, rfl, (Option.some.inj h).symm, hlt, List.mem_of_getElem? hx⟩
  refine ⟨cl.map gE, ⟨by rw [List.length_map]; exact h12, by rw [List.length_map], by rw [List.length_map], hl, rfl, fun i c hc => ?_⟩, by rw [List.length_map]; exact h12, by rw [List.length_map]; exact q1, len', hl', fun i c hc => ?_⟩
  · obtain ⟨x, hx, rfl, hlt, hm⟩ := get i c hc
    obtain ⟨a1, a2, a3, a4, a5⟩ := hG i x hx
    have cc : ∀ i, i < len → ev_cc stp1 len i = ev_cc stp len i := fun i hi => by
      unfold ev_cc
      rw [if_pos hi, if_pos hi, e2 i hi]
    refine ⟨by rw [e1 _ (by omega)]; exact a1, ?_, ?_⟩
    · rw [e1 _ (by omega)]; exact CO_up (Nat.le_refl _) cc a2
    · rw [e1 _ (by omega)]; exact CO_up (Nat.le_refl _) cc a5
  · obtain ⟨x, hx, rfl, hlt, hm⟩ := get i c hc
    obtain ⟨a1, a2, a3⟩ := hP i x hx
    refine ⟨(hp x hm).1, (hp x hm).2, hT x hm, by rw [q2 _ (by omega)]; exact a1, ?_, ?_⟩
    · rw [show 2 + 8 * i + 3 = 2 + (8 * i + 3) by omega, show 2 + 8 * i + 4 = 2 + (8 * i + 4) by omega, q2 _ (by omega), q2 _ (by omega)]
      exact ev_RO_ext (fun j hj => (q3 j hj).1) (fun j hj => (q3 j hj).2) a2
    · rw [show 2 + 8 * i + 5 = 2 + (8 * i + 5) by omega, show 2 + 8 * i + 6 = 2 + (8 * i + 6) by omega, q2 _ (by omega), q2 _ (by omega)]
      exact ev_RO_ext (fun j hj => (q3 j hj).1) (fun j hj => (q3 j hj).2) a3
