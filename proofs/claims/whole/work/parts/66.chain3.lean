/-! ===== chains: the reference ===== -/
def chU (A : Nat → Nat → Prop) (H : Nat → Prop) (t k : Nat) (v : Int32) : Prop := ∃ u : Nat, v = nI u ∧ u ≤ 100000000 ∧ (u = 100000000 ∨ (1 ≤ u ∧ chR A H u k)) ∧ ∀ j, j ≤ t → chR A H j k → u ≤ j
theorem chU_e {A : Nat → Nat → Prop} {H : Nat → Prop} {t k L : Nat} {v : Int32} (ht : 5 ≤ t) (h : chU A H t k v) (hL : chL A H k L) : v = nI L := by
  obtain ⟨u, rfl, h1, h2, h3⟩ := h
  have h5 := chL_5 hL
  have := h3 L (by omega) hL.1
  rcases h2 with h2 | ⟨_, h2⟩
  · omega
  · by_cases q : u < L
    · exact (hL.2 u q h2).elim
    · rw [show u = L by omega]
theorem chU_f {A : Nat → Nat → Prop} {H : Nat → Prop} {t k : Nat} {v : Int32} (h : chU A H t k v) (hL : ¬ chR A H 5 k) : v = nI 100000000 := by
  obtain ⟨u, rfl, h1, h2, h3⟩ := h
  rcases h2 with h2 | ⟨_, h2⟩
  · rw [h2]
  · exact (hL (chR_5 h2)).elim
section ChainR
variable {F n s x np : Nat} {r : Nat → Int32} {lf : Option (List ev_C)} {T : Int} {M : sp_Mem}
abbrev chFr (M M' : sp_Mem) : Prop := sp_fr [126, 121, 123] [(103, 34), (103, 38), (103, 39), (103, 40)] M M'
theorem RX_fr4 {M' : sp_Mem} (hf : chFr M M') (h : RX F M r lf n T) : RX F M' r lf n T := RX_of h (hf.1 103 20 (by decide) (by decide)) (funext fun j => hf.1 105 j (by decide) (by simp))
theorem cel_r (h : RX F M r lf n T) (hs : s < n) (hx : x < 25) (ex : r (9 + s) = nI x) {k : Nat} (hk : k < 6) : fX11_cellOf M (nI s) (nI k) = some (nI (chC r x k)) := by
  have h6 := h.2.2.2.2.2.2
  unfold fX11_cellOf
  by_cases h5 : k = 5
  · rw [if_pos (by rw [h5]; rfl), show (9 : Int32) + nI s = nI (9 + s) from nI_add 9 s, sp_ix_nI (show 9 + s < 5480 by omega) (by omega), Option.bind_some, RX_r h, ex]
    unfold chC
    rw [if_pos h5]
  · have n5 : ¬ nI k = 5 := fun z => h5 ((nIe (a := k) (b := 5) (by omega) (by omega)).1 z)
    rw [if_neg n5, show (21 : Int32) + nI k = nI (21 + k) from nI_add 21 k, sp_ix_nI (show 21 + k < 5480 by omega) (by omega), Option.bind_some, RX_r h, (chC_st h.2.2.2.1.2 hx hk).2 h5]
theorem lb_r {A : Nat → Nat → Prop} {t i : Nat} (h : RX F M r lf n T) (hi : i < 5) (hU : chU A (chH r) t i (sp_I M 126 i)) : ∃ w : Nat, fX11_leftBy M (nI i) = some (nI w) ∧ 1 ≤ w ∧ w ≤ 100000001 ∧ (w ≤ 100000000 → chS A (chH r) (w - 1) i) ∧ (∀ j, j ≤ t → chS A (chH r) j i → w ≤ j + 1) ∧ (5 ≤ t → ∀ L, 1 ≤ L → L ≤ 5 → (nI w = nI L ↔ chG A (chH r) i (L - 1))) := by
  unfold fX11_leftBy
  rw [show (21 : Int32) + nI i = nI (21 + i) from nI_add 21 i, sp_ix_nI (show 21 + i < 5480 by omega) (by omega), Option.bind_some, RX_r h, RX_r h]
  by_cases hH : r (21 + i) = r 8
  · refine ⟨1, by rw [if_pos hH]; rfl, by omega, by omega, fun _ => hH, fun j _ _ => by omega, fun _ L h1 h2 => ?_⟩
    rw [nIe (by omega) (by omega)]
    refine ⟨fun z => Or.inl ⟨hH, by omega⟩, fun z => ?_⟩
    rcases z with ⟨_, z⟩ | ⟨z, _⟩
    · omega
    · exact (z hH).elim
  · obtain ⟨u, e, h1, h2, h3⟩ := hU
    rw [if_neg hH, sp_ix_nI (show i < 6 by omega) (by omega), Option.bind_some, e, nI_1]
    have hR : ∀ j, chS A (chH r) j i → chR A (chH r) j i := fun j z => ((chS_R j).1 z).resolve_left hH
    refine ⟨u + 1, rfl, by omega, by omega, fun hw => ?_, fun j hj z => ?_, fun ht L g1 g2 => ?_⟩
    · rcases h2 with h2 | ⟨_, h2⟩
      · omega
      · exact (chS_R _).2 (Or.inr h2)
    · have := h3 j hj (hR j z); omega
    · rw [nIe (by omega) (by omega)]
      refine ⟨fun z => Or.inr ⟨hH, ?_⟩, fun z => ?_⟩
      · rcases h2 with h2 | ⟨h2, h4⟩
        · omega
        · rw [show L - 1 = u by omega]
          exact ⟨h4, fun j hj w => by have := h3 j (by omega) w; omega⟩
      · rcases z with ⟨z, _⟩ | ⟨_, z⟩
        · exact (hH z).elim
        · have a1 := h3 (L - 1) (by omega) z.1
          rcases h2 with h2 | ⟨h2, h4⟩
          · omega
          · by_cases q : u < L - 1
            · exact (z.2 u q h4).elim
            · omega
theorem lc_p {kx : Int32 → Int32 → Int32 → sp_Mem → Option sp_Mem} {k t : Nat} {a2 : Int32} (hs : s < n) (hx : x < 25) (ex : r (9 + s) = nI x) (hnp : np ≤ 5) (hp1 : r 1 = nI np) (hk : k < 6) : ∀ (m i kf : Nat) (M : sp_Mem), i + m = np → m < kf → RX F M r lf n T → (∀ k', k' < 6 → chU (chA lf r s x np) (chH r) t k' (sp_I M 126 k')) → (∃ u : Nat, sp_I M 126 k = nI u ∧ u ≤ 100000000 ∧ ∀ q, q < i → chA lf r s x np k q → chS (chA lf r s x np) (chH r) t q → u ≤ t + 1) → ∃ M', fX11_layChain_l42 F kx kf (nI s) a2 (nI k) (nI i) M = kx (nI s) a2 (nI k) M' ∧ chFr M M' ∧ (∀ k', k' ≠ k → sp_I M' 126 k' = sp_I M 126 k') ∧ chU (chA lf r s x np) (chH r) (t + 1) k (sp_I M' 126 k) ∧ chU (chA lf r s x np) (chH r) t k (sp_I M' 126 k) := by
  intro m
  have fin : ∀ (M : sp_Mem), chU (chA lf r s x np) (chH r) t k (sp_I M 126 k) → (∃ u : Nat, sp_I M 126 k = nI u ∧ u ≤ 100000000 ∧ ∀ q, q < np → chA lf r s x np k q → chS (chA lf r s x np) (chH r) t q → u ≤ t + 1) → chU (chA lf r s x np) (chH r) (t + 1) k (sp_I M 126 k) := by
    rintro M ⟨u, e, h1, h2, h3⟩ ⟨v, e', _, g⟩
    have : u = v := (nIe (by omega) (by omega)).1 (e.symm.trans e')
    refine ⟨u, e, h1, h2, fun j hj z => ?_⟩
    by_cases q : j ≤ t
    · exact h3 j q z
    · rw [show j = t + 1 by omega] at z ⊢
      obtain ⟨q, a1, a2, a3⟩ := z
      rw [this]
      exact g q a2.2.1 a2 a3
  induction m with
  | zero =>
    intro i kf M hi hkf h hU hP
    obtain ⟨kf, rfl⟩ : ∃ m, kf = m + 1 := ⟨kf - 1, by omega⟩
    refine ⟨M, ?_, sp_fr.refl _ _ _, fun _ _ => rfl, fin M (hU k hk) (by rw [show i = np by omega] at hP; exact hP), hU k hk⟩
    rw [fX11_layChain_l42, RX_r h, hp1, if_pos (nI_le (by omega) (by omega))]
  | succ m ih =>
    intro i kf M hi hkf h hU hP
    obtain ⟨kf, rfl⟩ : ∃ m, kf = m + 1 := ⟨kf - 1, by omega⟩
    have hB := h.2.2.2.1.2
    have go : (k < np ∨ k = 5) → ∃ M', fX11_layChain_j68 F (fX11_layChain_l42 F kx kf) kx (nI s) a2 (nI k) (nI i) M = kx (nI s) a2 (nI k) M' ∧ chFr M M' ∧ (∀ k', k' ≠ k → sp_I M' 126 k' = sp_I M 126 k') ∧ chU (chA lf r s x np) (chH r) (t + 1) k (sp_I M' 126 k) ∧ chU (chA lf r s x np) (chH r) t k (sp_I M' 126 k) := by
      intro hkk
      obtain ⟨M1, e1, e2⟩ := comes_r h hs (chC_st hB hx hk).1 (show i < 5 by omega)
      have f1 : chFr M M1 := e2.mono (by decide) (fun _ z => z)
      have u1 : ∀ k', sp_I M1 126 k' = sp_I M 126 k' := fun k' => e2.1 126 k' (by simp) (by simp)
      have h1 := RX_fr4 f1 h
      have hU1 : ∀ k', k' < 6 → chU (chA lf r s x np) (chH r) t k' (sp_I M1 126 k') := fun k' hk' => by rw [u1]; exact hU k' hk'
      obtain ⟨u, pe, pu, pq⟩ := hP
      unfold fX11_layChain_j68
      rw [cel_r h hs hx ex hk, Option.bind_some, e1, Option.bind_some]
      dsimp only
      have skip : (chA lf r s x np k i → chS (chA lf r s x np) (chH r) t i → u ≤ t + 1) → ∃ M', fX11_layChain_l42 F kx kf (nI s) a2 (nI k) (nI i + 1) M1 = kx (nI s) a2 (nI k) M' ∧ chFr M M' ∧ (∀ k', k' ≠ k → sp_I M' 126 k' = sp_I M 126 k') ∧ chU (chA lf r s x np) (chH r) (t + 1) k (sp_I M' 126 k) ∧ chU (chA lf r s x np) (chH r) t k (sp_I M' 126 k) := by
        intro hz
        obtain ⟨M', g1, g2, g3, g4, g5⟩ := ih (i + 1) kf M1 (by omega) (by omega) h1 hU1 ⟨u, by rw [u1]; exact pe, pu, fun q hq a b => by
          by_cases w : q = i
          · rw [w] at a b; exact hz a b
          · exact pq q (by omega) a b⟩
        exact ⟨M', by rw [nI_1]; exact g1, f1.tr g2, fun k' hk' => (g3 k' hk').trans (u1 k'), g4, g5⟩
      by_cases hz : comesV lf r s (chC r x k) i = 0
      · rw [if_pos hz]
        exact skip (fun a _ => (a.2.2 hz).elim)
      · have hAi : chA lf r s x np k i := ⟨hkk, by omega, hz⟩
        obtain ⟨w, w1, w2, w3, w4, w5, _⟩ := lb_r h1 (show i < 5 by omega) (hU1 i (by omega))
        rw [if_neg hz, w1, Option.bind_some, sp_ix_nI hk (by omega), Option.bind_some, u1 k, pe]
        by_cases hle : u ≤ w
        · rw [if_pos (nI_le hle (by omega))]
          exact skip (fun _ b => by have := w5 t (by omega) b; omega)
        · rw [if_neg (nI_ge (by omega) (by omega)), Option.bind_some, Option.bind_some]
          simp only [sp_do]
          have f2 : chFr M1 (sp_setI M1 126 k (nI w)) := sp_fr_I (Or.inl (by simp)) rfl
          obtain ⟨M', g1, g2, g3, g4, g5⟩ := ih (i + 1) kf (sp_setI M1 126 k (nI w)) (by omega) (by omega) (RX_fr4 f2 h1) (fun k' hk' => by
            by_cases q : k' = k
            · rw [q, I_eq]
              obtain ⟨v, a1, a2, a3, a4⟩ := hU k hk
              have : v = u := (nIe (by omega) (by omega)).1 (a1.symm.trans pe)
              refine ⟨w, rfl, by omega, Or.inr ⟨w2, ?_⟩, fun j hj z => by have := a4 j hj z; omega⟩
              rw [show w = w - 1 + 1 by omega]
              exact ⟨i, by omega, hAi, w4 (by omega)⟩
            · rw [I_nf _ _ _ q]; exact hU1 k' hk') ⟨w, I_eq _ _ _ _, by omega, fun q hq a b => by
              by_cases y : q = i
              · rw [y] at b; exact w5 t (by omega) b
              · have := pq q (by omega) a b; omega⟩
          exact ⟨M', by rw [nI_1]; exact g1, f1.tr (f2.tr g2), fun k' hk' => (g3 k' hk').trans ((I_nf _ _ _ hk').trans (u1 k')), g4, g5⟩
    rw [fX11_layChain_l42, RX_r h, hp1, if_neg (nI_ge (by omega) (by omega))]
    by_cases c1 : k < np
    · rw [if_pos (by rw [Int32.lt_iff_toInt_lt, nI_toInt (by omega), nI_toInt (by omega)]; omega)]
      exact go (Or.inl c1)
    · rw [if_neg (by rw [Int32.lt_iff_toInt_lt, nI_toInt (by omega), nI_toInt (by omega)]; omega)]
      by_cases c2 : k = 5
      · rw [if_pos (by rw [c2]; rfl)]
        exact go (Or.inr c2)
      · rw [if_neg (show ¬ nI k = 5 from fun z => c2 ((nIe (a := k) (b := 5) (by omega) (by omega)).1 z))]
        obtain ⟨u, pe, pu, pq⟩ := hP
        exact ⟨M, rfl, sp_fr.refl _ _ _, fun _ _ => rfl, fin M (hU k hk) ⟨u, pe, pu, fun q _ a _ => absurd a.1 (by omega)⟩, hU k hk⟩
theorem lc_k {kx : Int32 → Int32 → sp_Mem → Option sp_Mem} {t : Nat} {a2 : Int32} (hs : s < n) (hx : x < 25) (ex : r (9 + s) = nI x) (hnp : np ≤ 5) (hp1 : r 1 = nI np) : ∀ (m i kf : Nat) (M : sp_Mem), i + m = 6 → m < kf → RX F M r lf n T → (∀ k', k' < 6 → chU (chA lf r s x np) (chH r) t k' (sp_I M 126 k')) → (∀ k', k' < i → chU (chA lf r s x np) (chH r) (t + 1) k' (sp_I M 126 k')) → ∃ M', fX11_layChain_l33 F kx kf (nI s) a2 (nI i) M = kx (nI s) a2 M' ∧ chFr M M' ∧ ∀ k', k' < 6 → chU (chA lf r s x np) (chH r) (t + 1) k' (sp_I M' 126 k') := by
  intro m
  induction m with
  | zero =>
    intro i kf M hi hkf h hU hV
    obtain ⟨kf, rfl⟩ : ∃ m, kf = m + 1 := ⟨kf - 1, by omega⟩
    refine ⟨M, ?_, sp_fr.refl _ _ _, fun k' hk' => hV k' (by omega)⟩
    rw [fX11_layChain_l33, show i = 6 by omega, if_pos (by decide)]
  | succ m ih =>
    intro i kf M hi hkf h hU hV
    obtain ⟨kf, rfl⟩ : ∃ m, kf = m + 1 := ⟨kf - 1, by omega⟩
    have hF := h.1
    have h6 : ¬ (6 : Int32) ≤ nI i := (show ∀ k, k < 6 → ¬ (6 : Int32) ≤ nI k by decide +kernel) i (by omega)
    obtain ⟨u, pe, pu, _, _⟩ := hU i (by omega)
    obtain ⟨M1, e1, e2, e3, e4, e5⟩ := lc_p (F := F) (t := t) (a2 := a2) (kx := fun b21 b22 b23 M20 => (fX11_layChain_l33 F kx kf) b21 b22 (b23 + 1) M20) hs hx ex hnp hp1 (show i < 6 by omega) np 0 F M (by omega) (by omega) h hU ⟨u, pe, pu, fun q hq => absurd hq (by omega)⟩
    obtain ⟨M2, g1, g2, g3⟩ := ih (i + 1) kf M1 (by omega) (by omega) (RX_fr4 e2 h) (fun k' hk' => by
      by_cases q : k' = i
      · rw [q]; exact e5
      · rw [e3 k' q]; exact hU k' hk') (fun k' hk' => by
      by_cases q : k' = i
      · rw [q]; exact e4
      · rw [e3 k' q]; exact hV k' (by omega))
    refine ⟨M2, ?_, e2.tr g2, g3⟩
    rw [fX11_layChain_l33, if_neg h6]
    refine e1.trans ?_
    rw [nI_1]
    exact g1
theorem lc_t {kx : sp_Mem → Option sp_Mem} (hs : s < n) (hx : x < 25) (ex : r (9 + s) = nI x) (hnp : np ≤ 5) (hp1 : r 1 = nI np) : ∀ (m t kf : Nat) (M : sp_Mem), t + m = 6 → m < kf → RX F M r lf n T → (∀ k', k' < 6 → chU (chA lf r s x np) (chH r) t k' (sp_I M 126 k')) → ∃ M', fX11_layChain_l25 F kx kf (nI s) (nI t) M = kx M' ∧ chFr M M' ∧ ∀ k', k' < 6 → chU (chA lf r s x np) (chH r) 6 k' (sp_I M' 126 k') := by
  intro m
  induction m with
  | zero =>
    intro t kf M hi hkf h hU
    obtain ⟨kf, rfl⟩ : ∃ m, kf = m + 1 := ⟨kf - 1, by omega⟩
    rw [show t = 6 by omega] at hU ⊢
    refine ⟨M, ?_, sp_fr.refl _ _ _, hU⟩
    rw [fX11_layChain_l25, if_pos (by decide)]
  | succ m ih =>
    intro t kf M hi hkf h hU
    obtain ⟨kf, rfl⟩ : ∃ m, kf = m + 1 := ⟨kf - 1, by omega⟩
    have hF := h.1
    have h6 : ¬ (6 : Int32) ≤ nI t := (show ∀ k, k < 6 → ¬ (6 : Int32) ≤ nI k by decide +kernel) t (by omega)
    obtain ⟨M1, e1, e2, e3⟩ := lc_k (F := F) (t := t) (a2 := nI t) (kx := fun b25 b26 M24 => (fX11_layChain_l25 F kx kf) b25 (b26 + 1) M24) hs hx ex hnp hp1 6 0 F M (by omega) (by omega) h hU (fun k' hk' => absurd hk' (by omega))
    obtain ⟨M2, g1, g2, g3⟩ := ih (t + 1) kf M1 (by omega) (by omega) (RX_fr4 e2 h) e3
    refine ⟨M2, ?_, e2.tr g2, g3⟩
    rw [fX11_layChain_l25, if_neg h6]
    refine e1.trans ?_
    rw [nI_1]
    exact g1
theorem lc_0 {kx : Int32 → sp_Mem → Option sp_Mem} {a1 : Int32} : ∀ (m i k : Nat) (M : sp_Mem), i + m = 6 → m < k → ∃ M', fX11_layChain_l2 F kx k a1 (nI i) M = kx a1 M' ∧ chFr M M' ∧ (∀ j, i ≤ j → j < 6 → sp_I M' 126 j = nI 100000000) ∧ ∀ j, j < i → sp_I M' 126 j = sp_I M 126 j := by
  intro m
  induction m with
  | zero =>
    intro i k M hi hk
    obtain ⟨k, rfl⟩ : ∃ m, k = m + 1 := ⟨k - 1, by omega⟩
    refine ⟨M, ?_, sp_fr.refl _ _ _, fun j h1 h2 => absurd h1 (by omega), fun _ _ => rfl⟩
    rw [fX11_layChain_l2, show i = 6 by omega, if_pos (by decide)]
  | succ m ih =>
    intro i k M hi hk
    obtain ⟨k, rfl⟩ : ∃ m, k = m + 1 := ⟨k - 1, by omega⟩
    have h6 : ¬ (6 : Int32) ≤ nI i := (show ∀ k, k < 6 → ¬ (6 : Int32) ≤ nI k by decide +kernel) i (by omega)
    obtain ⟨M', e1, e2, e3, e4⟩ := ih (i + 1) k (sp_setI M 126 i 100000000) (by omega) (by omega)
    refine ⟨M', ?_, (sp_fr_I (Or.inl (by simp)) rfl).tr e2, fun j h1 h2 => ?_, fun j hj => ?_⟩
    · rw [fX11_layChain_l2, if_neg h6, sp_ix_nI (show i < 6 by omega) (by omega), Option.bind_some, nI_1]
      exact e1
    · by_cases q : i + 1 ≤ j
      · exact e3 j q h2
      · rw [e4 j (by omega), show j = i by omega, I_eq]; rfl
    · rw [e4 j (by omega), I_nf _ _ _ (by omega)]
theorem lay_r (h : RX F M r lf n T) (hs : s < n) (hx : x < 25) (ex : r (9 + s) = nI x) (hnp : np ≤ 5) (hp1 : r 1 = nI np) : ∃ M', fX11_layChain F M (nI s) = some M' ∧ RX F M' r lf n T ∧ ∀ k', k' < 6 → chU (chA lf r s x np) (chH r) 6 k' (sp_I M' 126 k') := by
  have hF := h.1
  obtain ⟨M1, e1, e2, e3, _⟩ := lc_0 (F := F) (a1 := nI s) (kx := fun b5 M4 => fX11_layChain_l25 F (fun M27 => some M27) F b5 0 M4) 6 0 F M (by omega) (by omega)
  obtain ⟨M2, g1, g2, g3⟩ := lc_t (F := F) (kx := fun M27 => some M27) hs hx ex hnp hp1 6 0 F M1 (by omega) (by omega) (RX_fr4 e2 h) (fun k' hk' => ⟨100000000, e3 k' (by omega) hk', by omega, Or.inl rfl, fun j hj z => by
    rw [show j = 0 by omega] at z
    exact z.elim⟩)
  exact ⟨M2, e1.trans g1, RX_fr4 g2 (RX_fr4 e2 h), g3⟩
theorem nc_r {kx : Int32 → sp_Mem → Option (Int32 × sp_Mem)} {k L : Nat} (hs : s < n) (hx : x < 25) (ex : r (9 + s) = nI x) (hnp : np ≤ 5) (hp1 : r 1 = nI np) (hk : k < 6) (hL : chL (chA lf r s x np) (chH r) k L) : ∀ (m i kf p : Nat) (M : sp_Mem), i + m = p → m < kf → RX F M r lf n T → (∀ k', k' < 6 → chU (chA lf r s x np) (chH r) 6 k' (sp_I M 126 k')) → chF (chA lf r s x np) (chH r) k (L - 1) i p → ∃ M', fX11_nextCaller_l2 F kx kf (nI s) (nI k) (nI i) M = kx (nI p) M' ∧ chFr M M' ∧ ∀ k', sp_I M' 126 k' = sp_I M 126 k' := by
  intro m
  have hL5 := chL_5 hL
  have hL1 := chL_1 hL
  have one : ∀ (i kf p : Nat) (M : sp_Mem), i ≤ p → p < np → RX F M r lf n T → (∀ k', k' < 6 → chU (chA lf r s x np) (chH r) 6 k' (sp_I M 126 k')) → ∃ M1, chFr M M1 ∧ (∀ k', sp_I M1 126 k' = sp_I M 126 k') ∧ ((chA lf r s x np k i ∧ chG (chA lf r s x np) (chH r) i (L - 1)) → fX11_nextCaller_l2 F kx (kf + 1) (nI s) (nI k) (nI i) M = kx (nI i) M1) ∧ (¬ (chA lf r s x np k i ∧ chG (chA lf r s x np) (chH r) i (L - 1)) → fX11_nextCaller_l2 F kx (kf + 1) (nI s) (nI k) (nI i) M = fX11_nextCaller_l2 F kx kf (nI s) (nI k) (nI (i + 1)) M1) := by
    intro i kf p M hip hpn h hU
    have hB := h.2.2.2.1.2
    obtain ⟨M1, e1, e2⟩ := comes_r h hs (chC_st hB hx hk).1 (show i < 5 by omega)
    have f1 : chFr M M1 := e2.mono (by decide) (fun _ z => z)
    have u1 : ∀ k', sp_I M1 126 k' = sp_I M 126 k' := fun k' => e2.1 126 k' (by simp) (by simp)
    have hkk : k < np ∨ k = 5 := by
      obtain ⟨c, rfl⟩ : ∃ c, L = c + 1 := ⟨L - 1, by omega⟩
      obtain ⟨q, _, a, _⟩ := hL.1
      exact a.1
    obtain ⟨w, w1, _, _, _, _, w6⟩ := lb_r (RX_fr4 f1 h) (show i < 5 by omega) (by rw [u1]; exact hU i (by omega))
    have w7 := w6 (by omega) L hL1 hL5
    have hkU : sp_I M1 126 k = nI L := by rw [u1]; exact chU_e (by omega) (hU k hk) hL
    refine ⟨M1, f1, u1, fun z => ?_, fun z => ?_⟩
    · rw [fX11_nextCaller_l2, cel_r h hs hx ex hk, Option.bind_some, e1, Option.bind_some, if_neg z.1.2.2, w1, Option.bind_some, sp_ix_nI hk (by omega), Option.bind_some, if_pos (by dsimp only; rw [hkU]; exact w7.2 z.2)]
    · rw [fX11_nextCaller_l2, cel_r h hs hx ex hk, Option.bind_some, e1, Option.bind_some, nI_1]
      by_cases c0 : comesV lf r s (chC r x k) i = 0
      · rw [if_pos c0]
      · rw [if_neg c0, w1, Option.bind_some, sp_ix_nI hk (by omega), Option.bind_some, if_neg (by dsimp only; rw [hkU]; exact fun q => z ⟨⟨hkk, by omega, c0⟩, w7.1 q⟩)]
  induction m with
  | zero =>
    intro i kf p M hi hkf h hU hf
    obtain ⟨kf, rfl⟩ : ∃ m, kf = m + 1 := ⟨kf - 1, by omega⟩
    obtain ⟨M1, a1, a2, a3, _⟩ := one i kf p M hf.1 hf.2.2.1.2.1 h hU
    have : p = i := by omega
    rw [this] at hf ⊢
    exact ⟨M1, a3 ⟨hf.2.2.1, hf.2.2.2.1⟩, a1, a2⟩
  | succ m ih =>
    intro i kf p M hi hkf h hU hf
    obtain ⟨kf, rfl⟩ : ∃ m, kf = m + 1 := ⟨kf - 1, by omega⟩
    obtain ⟨M1, a1, a2, _, a4⟩ := one i kf p M hf.1 hf.2.2.1.2.1 h hU
    obtain ⟨h1, h2, h3, h4, h5⟩ := hf
    obtain ⟨M2, g1, g2, g3⟩ := ih (i + 1) kf p M1 (by omega) (by omega) (RX_fr4 a1 h) (fun k' hk' => by rw [a2]; exact hU k' hk') ⟨by omega, h2, h3, h4, fun q a b => h5 q (by omega) b⟩
    exact ⟨M2, (a4 (h5 i (by omega) (by omega))).trans g1, a1.tr g2, fun k' => (g3 k').trans (a2 k')⟩
theorem wk_r {kx : Int32 → Int32 → Int32 → sp_Mem → Option (Int32 × sp_Mem)} {q : Nat} {a3 : Int32} (hs : s < n) (hx : x < 25) (ex : r (9 + s) = nI x) (hnp : np ≤ 5) (hp1 : r 1 = nI np) (hq : q < 100) : ∀ (t i kf k L p : Nat) (M : sp_Mem), i + t = q + 1 → t < kf → k < 6 → RX F M r lf n T → (∀ k', k' < 6 → chU (chA lf r s x np) (chH r) 6 k' (sp_I M 126 k')) → chW (chA lf r s x np) (chH r) t k L p → ∃ M', fX11_chain_l60 F kx kf (nI s) (nI q) a3 (nI k) (nI i) M = kx (nI q) a3 (nI p) M' := by
  intro t
  induction t with
  | zero =>
    intro i kf k L p M hi hkf hk h hU hw
    obtain ⟨kf, rfl⟩ : ∃ m, kf = m + 1 := ⟨kf - 1, by omega⟩
    refine ⟨M, ?_⟩
    rw [fX11_chain_l60, if_pos (by rw [Int32.lt_iff_toInt_lt, nI_toInt (by omega), nI_toInt (by omega)]; omega), show p = k from hw]
  | succ t ih =>
    intro i kf k L p M hi hkf hk h hU hw
    obtain ⟨kf, rfl⟩ : ∃ m, kf = m + 1 := ⟨kf - 1, by omega⟩
    have hF := h.1
    obtain ⟨hL, y, hy, hw⟩ := hw
    have hy5 := hy.2.1
    obtain ⟨M1, e1, e2, e3⟩ := nc_r (F := F) (kx := fun b8 M7 => some (b8, M7)) hs hx ex hnp hp1 hk hL y 0 F y M (by omega) (by omega) h hU hy
    obtain ⟨M2, g1⟩ := ih (i + 1) kf y (L - 1) p M1 (by omega) (by omega) (by omega) (RX_fr4 e2 h) (fun k' hk' => by rw [e3]; exact hU k' hk') hw
    refine ⟨M2, ?_⟩
    rw [fX11_chain_l60, if_neg (by rw [Int32.lt_iff_toInt_lt, nI_toInt (by omega), nI_toInt (by omega)]; omega)]
    unfold fX11_nextCaller
    rw [show (0 : Int32) = nI 0 from rfl, e1, Option.bind_some, nI_1]
    exact g1
end ChainR
