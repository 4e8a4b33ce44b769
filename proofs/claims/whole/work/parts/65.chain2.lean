/-! ===== chains: the class's levels and its walk ===== -/
/-- the way from k, L calls left, t calls on -/
def chW (A : Nat → Nat → Prop) (H : Nat → Prop) : Nat → Nat → Nat → Nat → Prop
  | 0, k, _, p => p = k
  | t + 1, k, L, p => chL A H k L ∧ ∃ q, chF A H k (L - 1) 0 q ∧ chW A H t q (L - 1) p
theorem chW_ex {A : Nat → Nat → Prop} {H : Nat → Prop} : ∀ t k L, chL A H k L → t ≤ L → ∃ p, chW A H t k L p
  | 0, k, _, _, _ => ⟨k, rfl⟩
  | t + 1, k, L, h, ht => by
    obtain ⟨c, rfl⟩ : ∃ c, L = c + 1 := ⟨L - 1, by omega⟩
    obtain ⟨⟨q, h1, h2, h3⟩, _⟩ := chL_next.1 h
    obtain ⟨p, hp⟩ := chF_ex 5 0 (by omega) ⟨q, by omega, h1, h2, h3⟩
    by_cases h0 : t = 0
    · exact ⟨p, h, p, hp, by rw [h0]; rfl⟩
    · rcases hp.2.2.2.1 with ⟨_, z⟩ | ⟨_, z⟩
      · exact absurd z (by omega)
      · obtain ⟨y, hy⟩ := chW_ex t p c z (by omega)
        exact ⟨y, h, p, hp, hy⟩
/-- what stands in the class's table of calls left, after c rounds -/
def chV (A : Nat → Nat → Prop) (H : Nat → Prop) (c k : Nat) (v : Int32) : Prop := (∃ j, j ≤ 5 ∧ chL A H k j ∧ v = nI j) ∨ (¬ chR A H c k ∧ v = -1)
theorem nIe {a b : Nat} (ha : a < 2 ^ 31) (hb : b < 2 ^ 31) : nI a = nI b ↔ a = b := ⟨fun z => by have := congrArg Int32.toInt z; rw [nI_toInt ha, nI_toInt hb] at this; omega, fun z => by rw [z]⟩
theorem chV_e {A : Nat → Nat → Prop} {H : Nat → Prop} {c k : Nat} {v : Int32} (hc : c ≤ 5) (h : chV A H c k v) : v = nI c ↔ chL A H k c := by
  rcases h with ⟨j, hj, h1, rfl⟩ | ⟨h1, rfl⟩
  · rw [nIe (by omega) (by omega)]
    exact ⟨fun z => by rw [← z]; exact h1, fun z => chL_u h1 z⟩
  · exact ⟨fun z => absurd z.symm (nI_m1 (by omega)), fun z => (h1 z.1).elim⟩
section ChainC2
variable {F k c np : Nat} {r : Nat → Int32} {A : Nat → Nat → Prop} {M : sp_Mem}
theorem nc_step {kx : Option Int32} {kf i : Nat} (hR : i_Room M 6 r) (hnp : np ≤ 5) (hp1 : r 1 = nI np) (hk : k < 6) (hc : c ≤ 5) (hA : ∀ p, p < 5 → (sp_I M 92 (k * 5 + p) = 0 ↔ ¬ A k p)) (hv : ∀ p, p < 5 → chV A (chH r) c p (sp_I M 93 p)) (hi : i < np) : (A k i ∧ chG A (chH r) i c → fX1_nextCaller_l3 F M 6 kx (kf + 1) (nI k) (nI (c + 1)) (nI i) = some (nI i)) ∧ (¬ (A k i ∧ chG A (chH r) i c) → fX1_nextCaller_l3 F M 6 kx (kf + 1) (nI k) (nI (c + 1)) (nI i) = fX1_nextCaller_l3 F M 6 kx kf (nI k) (nI (c + 1)) (nI (i + 1))) := by
  have hix : sp_ix 30 (nI k * 5 + nI i) = some (k * 5 + i) := by
    rw [show nI k * 5 = nI (k * 5) from nI_mul k 5, show nI (k * 5) + nI i = nI (k * 5 + i) from nI_add _ _, sp_ix_nI (by omega) (by omega)]
  have key : ∀ v : Int32, (v = nI c ↔ chG A (chH r) i c) → (A k i ∧ chG A (chH r) i c → fX1_nextCaller_j51 F M 6 (fX1_nextCaller_l3 F M 6 kx kf) kx (nI k) (nI (c + 1)) (nI i) v = some (nI i)) ∧ (¬ (A k i ∧ chG A (chH r) i c) → fX1_nextCaller_j51 F M 6 (fX1_nextCaller_l3 F M 6 kx kf) kx (nI k) (nI (c + 1)) (nI i) v = fX1_nextCaller_l3 F M 6 kx kf (nI k) (nI (c + 1)) (nI (i + 1))) := by
    intro v hvc
    unfold fX1_nextCaller_j51
    rw [hix, Option.bind_some, show nI (c + 1) - 1 = nI c from nI_sub (a := c + 1) (b := 1) (by omega) (by omega), nI_1]
    refine ⟨fun h => ?_, fun h => ?_⟩
    · rw [if_neg (fun z => (hA i (by omega)).1 z h.1), if_pos (hvc.2 h.2)]
    · by_cases z : sp_I M 92 (k * 5 + i) = 0
      · rw [if_pos z]
      · rw [if_neg z, if_neg (fun q => h ⟨Classical.byContradiction (fun w => z ((hA i (by omega)).2 w)), hvc.1 q⟩)]
  rw [fX1_nextCaller_l3, rm_p hR, hp1, if_neg (nI_ge (by omega) (by omega)), sp_ix_nI (show i < 5 by omega) (by omega), Option.bind_some, show sp_I M (6 + 5) i = r (21 + i) from rm_stand hR (show i < 5 by omega), show sp_I M (6 + 10) 3 = r 8 from rm_term hR (show 3 < 4 by omega)]
  unfold fX1_nextCaller_j33
  by_cases h : r (21 + i) = r 8
  · rw [if_pos h, if_neg (by decide)]
    refine key 0 ⟨fun z => Or.inl ⟨h, ?_⟩, fun z => ?_⟩
    · exact ((nIe (a := 0) (by omega) (by omega)).1 z).symm
    · rcases z with ⟨_, z⟩ | ⟨z, _⟩
      · rw [z]; rfl
      · exact (z h).elim
  · rw [if_neg h, if_pos rfl, sp_ix_nI (show i < 6 by omega) (by omega), Option.bind_some]
    refine key _ ((chV_e hc (hv i (by omega))).trans ⟨fun z => Or.inr ⟨h, z⟩, fun z => ?_⟩)
    rcases z with ⟨z, _⟩ | ⟨_, z⟩
    · exact (h z).elim
    · exact z
theorem nc_1 {kx : Option Int32} (hR : i_Room M 6 r) (hnp : np ≤ 5) (hp1 : r 1 = nI np) (hk : k < 6) (hc : c ≤ 5) (hA : ∀ p, p < 5 → (sp_I M 92 (k * 5 + p) = 0 ↔ ¬ A k p)) (hAn : ∀ p, A k p → p < np) (hv : ∀ p, p < 5 → chV A (chH r) c p (sp_I M 93 p)) : ∀ (m i kf p : Nat), i + m = np → m < kf → chF A (chH r) k c i p → fX1_nextCaller_l3 F M 6 kx kf (nI k) (nI (c + 1)) (nI i) = some (nI p) := by
  intro m
  induction m with
  | zero =>
    intro i kf p hi hkf h
    have := hAn p h.2.2.1
    exact absurd h.1 (by omega)
  | succ m ih =>
    intro i kf p hi hkf h
    obtain ⟨kf, rfl⟩ : ∃ m, kf = m + 1 := ⟨kf - 1, by omega⟩
    have st := nc_step (F := F) (kx := kx) (kf := kf) hR hnp hp1 hk hc hA hv (show i < np by omega)
    obtain ⟨h1, h2, h3, h4, h5⟩ := h
    by_cases q : p = i
    · rw [q] at h3 h4 ⊢; exact st.1 ⟨h3, h4⟩
    · rw [st.2 (h5 i (by omega) (by omega))]
      exact ih (i + 1) kf p (by omega) (by omega) ⟨by omega, h2, h3, h4, fun q a b => h5 q (by omega) b⟩
theorem nc_0 {kx : Option Int32} (hR : i_Room M 6 r) (hnp : np ≤ 5) (hp1 : r 1 = nI np) (hk : k < 6) (hc : c ≤ 5) (hA : ∀ p, p < 5 → (sp_I M 92 (k * 5 + p) = 0 ↔ ¬ A k p)) (hv : ∀ p, p < 5 → chV A (chH r) c p (sp_I M 93 p)) : ∀ (m i kf : Nat), i + m = np → m < kf → (∀ q, q < 5 → ¬ (A k q ∧ chG A (chH r) q c)) → fX1_nextCaller_l3 F M 6 kx kf (nI k) (nI (c + 1)) (nI i) = kx := by
  intro m
  induction m with
  | zero =>
    intro i kf hi hkf h
    obtain ⟨kf, rfl⟩ : ∃ m, kf = m + 1 := ⟨kf - 1, by omega⟩
    rw [fX1_nextCaller_l3, rm_p hR, hp1, if_pos (nI_le (by omega) (by omega))]
  | succ m ih =>
    intro i kf hi hkf h
    obtain ⟨kf, rfl⟩ : ∃ m, kf = m + 1 := ⟨kf - 1, by omega⟩
    rw [(nc_step (F := F) (kx := kx) (kf := kf) hR hnp hp1 hk hc hA hv (show i < np by omega)).2 (h i (by omega))]
    exact ih (i + 1) kf (by omega) (by omega) h
/-- one round over the table -/
theorem lv_k {kx : Int32 → sp_Mem → Option (Int32 × sp_Mem)} (hF : 1000 ≤ F) (hnp : np ≤ 5) (hp1 : r 1 = nI np) (hc : c < 5) (hAn : ∀ k p, A k p → p < np) : ∀ (m i kf : Nat) (M : sp_Mem), i + m = 6 → m < kf → i_Room M 6 r → (∀ k p, k < 6 → p < 5 → (sp_I M 92 (k * 5 + p) = 0 ↔ ¬ A k p)) → (∀ p, p < 6 → chV A (chH r) c p (sp_I M 93 p)) → (∀ p, p < i → chV A (chH r) (c + 1) p (sp_I M 93 p)) → ∃ M', fX1_findChain_l133 F 6 kx kf (nI (c + 1)) (nI i) M = kx (nI (c + 1)) M' ∧ sp_fr [93] [] M M' ∧ ∀ p, p < 6 → chV A (chH r) (c + 1) p (sp_I M' 93 p) := by
  intro m
  induction m with
  | zero =>
    intro i kf M hi hkf hR hA hv hw
    obtain ⟨kf, rfl⟩ : ∃ m, kf = m + 1 := ⟨kf - 1, by omega⟩
    refine ⟨M, ?_, sp_fr.refl _ _ _, fun p hp => hw p (by omega)⟩
    rw [fX1_findChain_l133, show i = 6 by omega, if_pos (by decide)]
  | succ m ih =>
    intro i kf M hi hkf hR hA hv hw
    obtain ⟨kf, rfl⟩ : ∃ m, kf = m + 1 := ⟨kf - 1, by omega⟩
    have h5 : ¬ (5 : Int32) < nI i := (show ∀ k, k < 6 → ¬ (5 : Int32) < nI k by decide +kernel) i (by omega)
    have i6 : sp_ix 6 (nI i) = some i := sp_ix_nI (show i < 6 by omega) (by omega)
    rw [fX1_findChain_l133, if_neg h5, i6, Option.bind_some]
    have skip : chV A (chH r) (c + 1) i (sp_I M 93 i) → ∃ M', fX1_findChain_l133 F 6 kx kf (nI (c + 1)) (nI i + 1) M = kx (nI (c + 1)) M' ∧ sp_fr [93] [] M M' ∧ ∀ p, p < 6 → chV A (chH r) (c + 1) p (sp_I M' 93 p) := fun z => by
      rw [nI_1]
      exact ih (i + 1) kf M (by omega) (by omega) hR hA hv (fun p hp => by
        by_cases q : p = i
        · rw [q]; exact z
        · exact hw p (by omega))
    by_cases hm : sp_I M 93 i = -1
    · have hnR : ¬ chR A (chH r) c i := by
        rcases hv i (by omega) with ⟨j, h1, h2, h3⟩ | ⟨h1, _⟩
        · rw [h3] at hm
          exact (nI_m1 (by omega) hm).elim
        · exact h1
      rw [if_pos hm]
      unfold fX1_nextCaller
      by_cases hL : chL A (chH r) i (c + 1)
      · obtain ⟨⟨q, g1, g2, g3⟩, _⟩ := chL_next.1 hL
        obtain ⟨p, hp⟩ := chF_ex 5 0 (by omega) ⟨q, by omega, g1, g2, g3⟩
        have := nc_1 (F := F) (kx := some (-1)) hR hnp hp1 (show i < 6 by omega) (by omega) (fun p => hA i p (by omega)) (hAn i) (fun p hp => hv p (by omega)) np 0 F p (by omega) (by omega) hp
        rw [show (0 : Int32) = nI 0 from rfl, this, Option.bind_some, if_neg (nI_m1 (by have := hp.2.1; omega)), Option.bind_some, nI_1]
        simp only [sp_do]
        have hset : ∀ p, p < 6 → p ≠ i → sp_I (sp_setI M 93 i (nI (c + 1))) 93 p = sp_I M 93 p := fun p _ hq => I_nf _ _ _ hq
        have hnew : ∀ d, chV A (chH r) d i (sp_I (sp_setI M 93 i (nI (c + 1))) 93 i) := fun d => Or.inl ⟨c + 1, by omega, hL, I_eq _ _ _ _⟩
        obtain ⟨M', e1, e2, e3⟩ := ih (i + 1) kf (sp_setI M 93 i (nI (c + 1))) (by omega) (by omega) (Room_ne hR (by omega)) (fun k p a b => by rw [I_ne _ _ _ (by decide)]; exact hA k p a b) (fun p hp => by
          by_cases q : p = i
          · rw [q]; exact hnew _
          · rw [hset p hp q]; exact hv p hp) (fun p hp => by
          by_cases q : p = i
          · rw [q]; exact hnew _
          · rw [hset p (by omega) q]; exact hw p (by omega))
        exact ⟨M', e1, (sp_fr_I (Or.inl (by simp)) rfl).tr e2, e3⟩
      · have no : ∀ q, q < 5 → ¬ (A i q ∧ chG A (chH r) q c) := fun q hq z => hL (chL_next.2 ⟨⟨q, hq, z.1, z.2⟩, hnR⟩)
        rw [show (0 : Int32) = nI 0 from rfl, nc_0 (F := F) (kx := some (-1)) hR hnp hp1 (show i < 6 by omega) (by omega) (fun p => hA i p (by omega)) (fun p hp => hv p (by omega)) np 0 F (by omega) (by omega) no, Option.bind_some, if_pos rfl]
        refine skip (Or.inr ⟨fun z => hL ⟨z, fun j hj w => hnR (chR_m (by omega) w)⟩, hm⟩)
    · rw [if_neg hm]
      refine skip ?_
      rcases hv i (by omega) with h | ⟨_, h2⟩
      · exact Or.inl h
      · exact (hm h2).elim
theorem lv_c {kx : sp_Mem → Option (Int32 × sp_Mem)} (hF : 1000 ≤ F) (hnp : np ≤ 5) (hp1 : r 1 = nI np) (hAn : ∀ k p, A k p → p < np) : ∀ (m c kf : Nat) (M : sp_Mem), c + m = 5 → m < kf → i_Room M 6 r → (∀ k p, k < 6 → p < 5 → (sp_I M 92 (k * 5 + p) = 0 ↔ ¬ A k p)) → (∀ p, p < 6 → chV A (chH r) c p (sp_I M 93 p)) → ∃ M', fX1_findChain_l125 F 6 kx kf (nI (c + 1)) M = kx M' ∧ sp_fr [93] [] M M' ∧ ∀ p, p < 6 → chV A (chH r) 5 p (sp_I M' 93 p) := by
  intro m
  induction m with
  | zero =>
    intro c kf M hi hkf hR hA hv
    obtain ⟨kf, rfl⟩ : ∃ m, kf = m + 1 := ⟨kf - 1, by omega⟩
    rw [show c = 5 by omega] at hv ⊢
    refine ⟨M, ?_, sp_fr.refl _ _ _, hv⟩
    rw [fX1_findChain_l125, if_pos (by decide)]
  | succ m ih =>
    intro c kf M hi hkf hR hA hv
    obtain ⟨kf, rfl⟩ : ∃ m, kf = m + 1 := ⟨kf - 1, by omega⟩
    have h5 : ¬ (5 : Int32) < nI (c + 1) := (show ∀ k, k < 6 → ¬ (5 : Int32) < nI k by decide +kernel) (c + 1) (by omega)
    obtain ⟨M1, e1, e2, e3⟩ := lv_k (F := F) (kx := fun b33 M32 => (fX1_findChain_l125 F 6 kx kf) (b33 + 1) M32) hF hnp hp1 (show c < 5 by omega) hAn 6 0 F M (by omega) (by omega) hR hA hv (fun p hp => absurd hp (by omega))
    obtain ⟨M2, g1, g2, g3⟩ := ih (c + 1) kf M1 (by omega) (by omega) (fun i hi => by
      rw [← hR i hi]
      exact congrFun (rowOf_6 e2 (by decide)) i) (fun k p a b => by rw [e2.1 92 _ (by simp) (by simp)]; exact hA k p a b) e3
    refine ⟨M2, ?_, e2.tr g2, g3⟩
    rw [fX1_findChain_l125, if_neg h5]
    refine e1.trans ?_
    rw [nI_1]
    exact g1
/-- the walk -/
theorem wk_c (hR : i_Room M 6 r) (hF : 1000 ≤ F) (hnp : np ≤ 5) (hp1 : r 1 = nI np) (hAn : ∀ k p, A k p → p < np) (hA : ∀ k p, k < 6 → p < 5 → (sp_I M 92 (k * 5 + p) = 0 ↔ ¬ A k p)) (hv : ∀ p, p < 6 → chV A (chH r) 5 p (sp_I M 93 p)) {q : Nat} (hq : q < 100) : ∀ (t i kf k L p : Nat), i + t = q + 1 → t < kf → k < 6 → chW A (chH r) t k L p → fX1_callerInChain_l5 F M 6 (fun b6 => some b6) kf (nI q) (nI k) (nI i) = some (nI p) := by
  intro t
  induction t with
  | zero =>
    intro i kf k L p hi hkf hk h
    obtain ⟨kf, rfl⟩ : ∃ m, kf = m + 1 := ⟨kf - 1, by omega⟩
    rw [fX1_callerInChain_l5, if_pos (by rw [Int32.lt_iff_toInt_lt, nI_toInt (by omega), nI_toInt (by omega)]; omega), show p = k from h]
  | succ t ih =>
    intro i kf k L p hi hkf hk h
    obtain ⟨kf, rfl⟩ : ∃ m, kf = m + 1 := ⟨kf - 1, by omega⟩
    obtain ⟨hL, y, hy, hw⟩ := h
    have hL5 := chL_5 hL
    have hL1 := chL_1 hL
    have hv5 : ∀ p, p < 5 → chV A (chH r) (L - 1) p (sp_I M 93 p) := fun p hp => (hv p (by omega)).imp id (fun z => ⟨fun w => z.1 (chR_5 w), z.2⟩)
    have e93 : sp_I M 93 k = nI (L - 1 + 1) := by
      rcases hv k hk with ⟨j, h1, h2, h3⟩ | ⟨h1, _⟩
      · rw [h3, chL_u h2 hL, show L - 1 + 1 = L by omega]
      · exact (h1 (chR_5 hL.1)).elim
    have := nc_1 (F := F) (kx := some (-1)) hR hnp hp1 hk (show L - 1 ≤ 5 by omega) (fun p => hA k p hk) (hAn k) hv5 np 0 F y (by omega) (by omega) hy
    rw [fX1_callerInChain_l5, if_neg (by rw [Int32.lt_iff_toInt_lt, nI_toInt (by omega), nI_toInt (by omega)]; omega), if_neg (nI_m1 (by omega)), sp_ix_nI hk (by omega), Option.bind_some, e93]
    unfold fX1_nextCaller
    rw [show (0 : Int32) = nI 0 from rfl, this, Option.bind_some, nI_1]
    exact ih (i + 1) kf y (L - 1) p (by omega) (by omega) (by have := hy.2.1; omega) hw
end ChainC2
