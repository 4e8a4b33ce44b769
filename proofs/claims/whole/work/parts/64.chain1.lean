/-! ===== chains: the class ===== -/
def chC (r : Nat → Int32) (x k : Nat) : Nat := if k = 5 then x else (r (21 + k)).toNatClampNeg
def chA (lf : Option (List ev_C)) (r : Nat → Int32) (s x np : Nat) (k p : Nat) : Prop := (k < np ∨ k = 5) ∧ p < np ∧ comesV lf r s (chC r x k) p ≠ 0
def chH (r : Nat → Int32) (p : Nat) : Prop := r (21 + p) = r 8
theorem vn0 : vp_nar .boolean 0 = 0 := by decide
theorem n25 : ∀ x, x < 25 → (nI x).toNatClampNeg = x := by decide +kernel
theorem chC_st {T : Int} {r : Nat → Int32} (hB : i_BT T r) {x k : Nat} (hx : x < 25) (hk : k < 6) : chC r x k < 25 ∧ (k ≠ 5 → r (21 + k) = nI (chC r x k)) := by
  unfold chC
  by_cases h : k = 5
  · rw [if_pos h]; exact ⟨hx, fun z => (z h).elim⟩
  · obtain ⟨y, hy, ey⟩ := bt_stand hB (show k < 5 by omega)
    rw [if_neg h, ey, n25 y hy]
    exact ⟨hy, fun _ => rfl⟩
theorem nIb (v : Int32) : vp_nar .boolean (if v = 0 then 0 else 1) = (if v = 0 then 0 else 1) := by
  by_cases h : v = 0
  · rw [if_pos h]; exact vn0
  · rw [if_neg h]; exact vn1
section ChainC
variable {F n s x np : Nat} {r : Nat → Int32} {lf : Option (List ev_C)} {T : Int}
theorem fc_p {kx : Int32 → Int32 → sp_Mem → Option (Int32 × sp_Mem)} {k : Nat} {fl a5 : Int32} (hs : s < n) (hx : x < 25) (hnp : np ≤ 5) (hp1 : r 1 = nI np) (hk : k < 6) (hfl : (fl = 0 ∧ ¬ (k < np ∨ k = 5)) ∨ (fl = 1 ∧ (k < np ∨ k = 5) ∧ a5 = nI (chC r x k))) : ∀ (m i kf : Nat) (M : sp_Mem), i + m = 5 → m < kf → CX F M 6 r lf n T → ∃ M', fX1_findChain_l52 F 6 kx kf (nI s) (nI k) fl a5 (nI i) M = kx (nI s) (nI k) M' ∧ sp_fr [92, 4, 3] [] M M' ∧ (∀ p, i ≤ p → p < 5 → (sp_I M' 92 (k * 5 + p) = 0 ↔ ¬ chA lf r s x np k p)) ∧ (∀ j, (j < k * 5 + i ∨ k * 5 + 5 ≤ j) → sp_I M' 92 j = sp_I M 92 j) := by
  intro m
  induction m with
  | zero =>
    intro i kf M hi hkf hC
    obtain ⟨kf, rfl⟩ : ∃ m, kf = m + 1 := ⟨kf - 1, by omega⟩
    refine ⟨M, ?_, sp_fr.refl _ _ _, fun p h1 h2 => absurd h1 (by omega), fun _ _ => rfl⟩
    rw [fX1_findChain_l52, show i = 5 by omega, if_pos (by decide)]
  | succ m ih =>
    intro i kf M hi hkf hC
    obtain ⟨kf, rfl⟩ : ∃ m, kf = m + 1 := ⟨kf - 1, by omega⟩
    have hB := hC.2.2.2.2.1.2
    have hR := hC.2.2.2.1
    have hix : sp_ix 30 (nI k * 5 + nI i) = some (k * 5 + i) := by
      rw [show nI k * 5 = nI (k * 5) from nI_mul k 5, show nI (k * 5) + nI i = nI (k * 5 + i) from nI_add _ _, sp_ix_nI (by omega) (by omega)]
    have step : ∀ (M1 : sp_Mem) (v : Int32), sp_fr [92, 4, 3] [] M M1 → (v = 0 ↔ ¬ chA lf r s x np k i) → (∀ j, sp_I M1 92 j = sp_I M 92 j) → ∃ M', fX1_findChain_l52 F 6 kx kf (nI s) (nI k) fl a5 (nI i + 1) (sp_setI M1 92 (k * 5 + i) v) = kx (nI s) (nI k) M' ∧ sp_fr [92, 4, 3] [] M M' ∧ (∀ p, i ≤ p → p < 5 → (sp_I M' 92 (k * 5 + p) = 0 ↔ ¬ chA lf r s x np k p)) ∧ (∀ j, (j < k * 5 + i ∨ k * 5 + 5 ≤ j) → sp_I M' 92 j = sp_I M 92 j) := by
      intro M1 v f1 hv h92
      have f2 : sp_fr [92, 4, 3] [] M (sp_setI M1 92 (k * 5 + i) v) := f1.tr (sp_fr_I (Or.inl (by simp)) rfl)
      obtain ⟨M', e1, e2, e3, e4⟩ := ih (i + 1) kf (sp_setI M1 92 (k * 5 + i) v) (by omega) (by omega) (CX_fr3 f2 hC (by simp) (by simp))
      refine ⟨M', by rw [nI_1]; exact e1, f2.tr e2, fun p h1 h2 => ?_, fun j hj => ?_⟩
      · by_cases q : p = i
        · rw [q, e4 _ (Or.inl (by omega)), I_eq]; exact hv
        · exact e3 p (by omega) h2
      · rw [e4 j (by omega), I_nf _ _ _ (by omega), h92]
    rw [fX1_findChain_l52, if_neg (le4 i (by omega)).2]
    rcases hfl with ⟨rfl, hno⟩ | ⟨rfl, hyes, rfl⟩
    · rw [if_pos rfl, hix, Option.bind_some, vn0]
      exact step M 0 (sp_fr.refl _ _ _) ⟨fun _ z => hno z.1, fun _ => rfl⟩ (fun _ => rfl)
    · rw [if_neg (by decide), rm_p hR, hp1]
      by_cases hpi : np ≤ i
      · rw [if_pos (nI_le hpi (by omega)), hix, Option.bind_some, vn0]
        exact step M 0 (sp_fr.refl _ _ _) ⟨fun _ z => absurd z.2.1 (by omega), fun _ => rfl⟩ (fun _ => rfl)
      · obtain ⟨M1, e1, e2⟩ := comes_c hC hs (chC_st hB hx hk).1 (show i < 5 by omega)
        rw [if_neg (nI_ge (by omega) (by omega)), e1, Option.bind_some, hix, Option.bind_some, nIb]
        refine step M1 _ (e2.mono (by decide) (by decide)) ?_ (fun j => e2.1 92 j (by simp) (by simp))
        by_cases z : comesV lf r s (chC r x k) i = 0
        · dsimp only; rw [if_pos z]
          exact ⟨fun _ q => q.2.2 z, fun _ => rfl⟩
        · dsimp only; rw [if_neg z]
          exact ⟨fun q => absurd q (by decide), fun q => (q ⟨hyes, by omega, z⟩).elim⟩
theorem fc_k {kx : sp_Mem → Option (Int32 × sp_Mem)} (hs : s < n) (hx : x < 25) (ex : r (9 + s) = nI x) (hnp : np ≤ 5) (hp1 : r 1 = nI np) : ∀ (m k kf : Nat) (M : sp_Mem), k + m = 6 → m < kf → CX F M 6 r lf n T → ∃ M', fX1_findChain_l2 F 6 kx kf (nI s) (nI k) M = kx M' ∧ sp_fr [92, 4, 3, 93] [] M M' ∧ (∀ k' p, k ≤ k' → k' < 6 → p < 5 → (sp_I M' 92 (k' * 5 + p) = 0 ↔ ¬ chA lf r s x np k' p)) ∧ (∀ k', k ≤ k' → k' < 6 → sp_I M' 93 k' = -1) ∧ (∀ j, j < k * 5 → sp_I M' 92 j = sp_I M 92 j) ∧ ∀ j, j < k → sp_I M' 93 j = sp_I M 93 j := by
  intro m
  induction m with
  | zero =>
    intro k kf M hi hkf hC
    obtain ⟨kf, rfl⟩ : ∃ m, kf = m + 1 := ⟨kf - 1, by omega⟩
    refine ⟨M, ?_, sp_fr.refl _ _ _, fun p _ h1 h2 => absurd h1 (by omega), fun p h1 h2 => absurd h1 (by omega), fun _ _ => rfl, fun _ _ => rfl⟩
    rw [fX1_findChain_l2, show k = 6 by omega, if_pos (by decide)]
  | succ m ih =>
    intro k kf M hi hkf hC
    obtain ⟨kf, rfl⟩ : ∃ m, kf = m + 1 := ⟨kf - 1, by omega⟩
    have hF := hC.1
    have hB := hC.2.2.2.2.1.2
    have hR := hC.2.2.2.1
    have h6 := hC.2.2.2.2.2.2.2
    have step : ∀ fl a5, ((fl = 0 ∧ ¬ (k < np ∨ k = 5)) ∨ (fl = 1 ∧ (k < np ∨ k = 5) ∧ a5 = nI (chC r x k))) → ∃ M', fX1_findChain_j47 F 6 (fX1_findChain_l2 F 6 kx kf) kx (nI s) (nI k) fl a5 M = kx M' ∧ sp_fr [92, 4, 3, 93] [] M M' ∧ (∀ k' p, k ≤ k' → k' < 6 → p < 5 → (sp_I M' 92 (k' * 5 + p) = 0 ↔ ¬ chA lf r s x np k' p)) ∧ (∀ k', k ≤ k' → k' < 6 → sp_I M' 93 k' = -1) ∧ (∀ j, j < k * 5 → sp_I M' 92 j = sp_I M 92 j) ∧ ∀ j, j < k → sp_I M' 93 j = sp_I M 93 j := by
      intro fl a5 hfl
      obtain ⟨M1, e1, e2, e3, e4⟩ := fc_p (F := F) (kx := fun b17 b18 M16 => (sp_ix 6 b18).bind fun j19 => sp_do (sp_setI M16 93 j19 (-1)) fun M20 => fX1_findChain_l2 F 6 kx kf b17 (b18 + 1) M20) hs hx hnp hp1 (show k < 6 by omega) hfl 5 0 F M (by omega) (by omega) hC
      have f2 : sp_fr [92, 4, 3, 93] [] M (sp_setI M1 93 k (-1)) := (e2.mono (by decide) (by decide)).tr (sp_fr_I (Or.inl (by simp)) rfl)
      obtain ⟨M2, g1, g2, g3, g4, g5, g6⟩ := ih (k + 1) kf (sp_setI M1 93 k (-1)) (by omega) (by omega) (CX_fr3 f2 hC (by simp) (by simp))
      refine ⟨M2, ?_, f2.tr g2, fun k' p h1 h2 h3 => ?_, fun k' h1 h2 => ?_, fun j hj => ?_, fun j hj => ?_⟩
      · refine e1.trans ?_
        rw [sp_ix_nI (show k < 6 by omega) (by omega), Option.bind_some, nI_1]
        exact g1
      · by_cases q : k' = k
        · rw [q, g5 _ (by omega), I_ne _ _ _ (by decide)]
          exact e3 p (by omega) h3
        · exact g3 k' p (by omega) h2 h3
      · by_cases q : k' = k
        · rw [q, g6 _ (by omega), I_eq]
        · exact g4 k' (by omega) h2
      · rw [g5 j (by omega), I_ne _ _ _ (by decide)]; exact e4 j (by omega)
      · rw [g6 j (by omega), I_nf _ _ _ (by omega)]; exact e2.1 93 j (by simp) (by simp)
    rw [fX1_findChain_l2, if_neg (show ¬ (5 : Int32) < nI k by have : ∀ k, k < 6 → ¬ (5 : Int32) < nI k := by decide +kernel
                                                               exact this k (by omega))]
    by_cases h5 : k = 5
    · rw [if_pos (by rw [h5]; rfl)]
      unfold fX1_findChain_j20 fX1_findChain_j25
      rw [if_pos (by rw [h5]; rfl), sp_ix_nI (show s < 6 by omega) (by omega), Option.bind_some, show sp_I M (6 + 2) s = nI x from (rm_cell hR (show s < 6 by omega)).trans ex]
      exact step _ _ (Or.inr ⟨rfl, Or.inr h5, by unfold chC; rw [if_pos h5]⟩)
    · have n5 : ¬ nI k = 5 := fun z => h5 (by have := congrArg Int32.toInt z; rw [nI_toInt (by omega)] at this; exact Int.ofNat.inj this)
      rw [if_neg n5]
      unfold fX1_findChain_j25
      rw [if_neg n5, sp_ix_nI (show k < 5 by omega) (by omega), Option.bind_some, rm_p hR, hp1, show sp_I M (6 + 5) k = r (21 + k) from rm_stand hR (show k < 5 by omega)]
      by_cases hk : np ≤ k
      · rw [if_pos (nI_le hk (by omega))]
        exact step _ _ (Or.inl ⟨rfl, by omega⟩)
      · rw [if_neg (nI_ge (by omega) (by omega))]
        exact step _ _ (Or.inr ⟨rfl, Or.inl (by omega), (chC_st hB hx (by omega)).2 h5⟩)
end ChainC
