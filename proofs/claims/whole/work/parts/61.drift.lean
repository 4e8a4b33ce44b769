/-! ===== drift, sodden ===== -/
def upL (y : Nat → Int64) (b : Nat) (v : Int64) : Nat → Int64 := fun j => if j = b then v else y j
/-- from one cell to its neighbours: what they have now, and what stays -/
def dsI (kd : Nat → Int32) (a : Nat) (x : Int64) : Nat → Nat → (Nat → Int64) → Int64 → (Nat → Int64) × Int64
  | 0, _, y, l => (y, l)
  | m + 1, w, y, l => match stp a w with
    | none => dsI kd a x m (w + 1) y l
    | some b => if kd b = 3 then dsI kd a x m (w + 1) y l else dsI kd a x m (w + 1) (upL y b (y b + x)) (l - x)
def dsO (kd : Nat → Int32) (s : Int64) (d : Nat → Int64) : Nat → Nat → (Nat → Int64) → (Nat → Int64)
  | 0, _, y => y
  | m + 1, i, y => dsO kd s d m (i + 1) (upL (dsI kd i (d i * s / 10) 4 1 y (d i)).1 i ((dsI kd i (d i * s / 10) 4 1 y (d i)).1 i + (dsI kd i (d i * s / 10) 4 1 y (d i)).2))
def dsN (kd : Nat → Int32) (s : Int64) : Nat → (Nat → Int64) → Nat → Int64
  | 0, d => d
  | m + 1, d => dsN kd s m (dsO kd s d 25 0 (fun _ => 0))
def lk (d : Nat → Int64) : Nat → Nat → Nat → Nat
  | 0, _, b => b
  | m + 1, i, b => lk d m (i + 1) (if d i ≤ d b then b else i)
theorem lk_lt (d : Nat → Int64) : ∀ m i b, i + m = 25 → b < 25 → lk d m i b < 25
  | 0, _, _, _, hb => hb
  | m + 1, i, b, hi, hb => lk_lt d m (i + 1) _ (by omega) (by split <;> omega)
theorem le25 : ∀ i, i < 25 → ¬ (25 : Int32) ≤ nI i := by decide +kernel
theorem le4 : ∀ i, i < 5 → ¬ (4 : Int32) < nI i ∧ ¬ (5 : Int32) ≤ nI i := by decide +kernel
theorem cel_e : ∀ c, c < 25 → fX10_isCell (nI c) = 1 := by decide +kernel
theorem rel_set {M : sp_Mem} {b : Nat} {y : Nat → Int64} (h : ∀ j, j < 25 → sp_L M b j = y j) (c : Nat) (v : Int64) : ∀ j, j < 25 → sp_L (sp_setL M b c v) b j = upL y c v j := by
  intro j hj
  rw [sp_L_setL]
  unfold upL
  by_cases q : j = c
  · rw [if_pos ⟨rfl, q⟩, if_pos q]
  · rw [if_neg (fun z => q z.2), if_neg q]; exact h j hj
section Drift
variable {F : Nat} {kd : Nat → Int32} {s : Int32}
theorem fil_e {b : Nat} {x : Int64} {kx : sp_Mem → Option sp_Mem} : ∀ (m i k : Nat) (M : sp_Mem), i + m = 25 → m < k → ∃ M', fJ7_fill_d0a16_l6 F b kx k x (nI i) 25 M = kx M' ∧ sp_fr [b] [] M M' ∧ (∀ j, i ≤ j → j < 25 → sp_L M' b j = x) ∧ ∀ j, j < i → sp_L M' b j = sp_L M b j := by
  intro m
  induction m with
  | zero =>
    intro i k M hi hk
    obtain ⟨k, rfl⟩ : ∃ m, k = m + 1 := ⟨k - 1, by omega⟩
    refine ⟨M, ?_, sp_fr.refl _ _ _, fun j h1 h2 => absurd h1 (by omega), fun _ _ => rfl⟩
    rw [fJ7_fill_d0a16_l6, show i = 25 by omega, if_pos (by decide)]
  | succ m ih =>
    intro i k M hi hk
    obtain ⟨k, rfl⟩ : ∃ m, k = m + 1 := ⟨k - 1, by omega⟩
    obtain ⟨M', e1, e2, e3, e4⟩ := ih (i + 1) k (sp_setL M b i x) (by omega) (by omega)
    refine ⟨M', ?_, (sp_fr_L (Or.inl (by simp)) rfl).tr e2, fun j h1 h2 => ?_, fun j hj => ?_⟩
    · rw [fJ7_fill_d0a16_l6, if_neg (le25 i (by omega)), sp_ix_nI (show i < 25 by omega) (by omega), Option.bind_some, nI_1]
      exact e1
    · by_cases q : i + 1 ≤ j
      · exact e3 j q h2
      · rw [e4 j (by omega), show j = i by omega, L_eq]
    · rw [e4 j (by omega), L_nf _ _ _ (by omega)]
theorem fill_c {b : Nat} {x : Int64} {M : sp_Mem} (hF : 1000 ≤ F) : ∃ M', fJ7_fill_d0a16 F M b x = some M' ∧ sp_fr [b] [] M M' ∧ ∀ j, j < 25 → sp_L M' b j = x := by
  obtain ⟨M', e1, e2, e3, _⟩ := fil_e (F := F) (b := b) (x := x) (kx := fun M4 => some M4) 25 0 F M (by omega) (by omega)
  exact ⟨M', e1, e2, fun j hj => e3 j (by omega) hj⟩
theorem dI_c {b a : Nat} {x : Int64} {kx : Int32 → Int64 → sp_Mem → Option sp_Mem} (hb : sp_half b) (ha : a < 25) : ∀ (m w k : Nat) (M : sp_Mem) (y : Nat → Int64) (l : Int64), w + m = 5 → m < k → sp_P M 77 3 = some b → (∀ j, j < 25 → sp_I M 7 j = kd j) → (∀ j, j < 25 → sp_L M b j = y j) → ∃ M', fX1_driftOnce_l46 F 6 kx k (nI a) x l (nI w) M = kx (nI a) (dsI kd a x m w y l).2 M' ∧ sp_fr [b] [] M M' ∧ ∀ j, j < 25 → sp_L M' b j = (dsI kd a x m w y l).1 j := by
  intro m
  induction m with
  | zero =>
    intro w k M y l hw hk hP hK hL
    obtain ⟨k, rfl⟩ : ∃ m, k = m + 1 := ⟨k - 1, by omega⟩
    refine ⟨M, ?_, sp_fr.refl _ _ _, hL⟩
    rw [fX1_driftOnce_l46, show w = 5 by omega, if_pos (by decide)]
    rfl
  | succ m ih =>
    intro w k M y l hw hk hP hK hL
    obtain ⟨k, rfl⟩ : ∃ m, k = m + 1 := ⟨k - 1, by omega⟩
    rw [fX1_driftOnce_l46, if_neg (le4 w (by omega)).1, (stp_e a ha w (by omega)).1, Option.bind_some]
    cases hs : stp a w with
    | none =>
      obtain ⟨M', e1, e2, e3⟩ := ih (w + 1) k M y l (by omega) (by omega) hP hK hL
      refine ⟨M', ?_, e2, ?_⟩
      · rw [if_pos (by decide), nI_1, e1]
        simp only [dsI, hs]
      · simp only [dsI, hs]; exact e3
    | some c =>
      have hc := stp_lt ha (show w < 5 by omega) hs
      rw [show oN (some c) = nI c from rfl, cel_e c hc, if_neg (by decide), sp_ix_nI hc (by omega), Option.bind_some, show sp_I M (6 + 1) c = kd c from hK c hc, nI_1]
      by_cases h3 : kd c = 3
      · obtain ⟨M', e1, e2, e3⟩ := ih (w + 1) k M y l (by omega) (by omega) hP hK hL
        refine ⟨M', ?_, e2, ?_⟩
        · rw [if_pos h3, e1]
          simp only [dsI, hs, h3, if_true]
        · simp only [dsI, hs, h3, if_true]; exact e3
      · rw [if_neg h3, hP, Option.bind_some, Option.bind_some, Option.bind_some]
        obtain ⟨M', e1, e2, e3⟩ := ih (w + 1) k (sp_setL M b c (sp_L M b c + x)) (upL y c (sp_L M b c + x)) (l - x) (by omega) (by omega) hP hK (rel_set hL _ _)
        rw [hL c hc] at e1 e2 e3 ⊢
        refine ⟨M', ?_, (sp_fr_L (Or.inl (by simp)) rfl).tr e2, ?_⟩
        · simp only [dsI, hs, h3, if_false]
          exact e1
        · simp only [dsI, hs, h3, if_false]; exact e3
theorem hf_n {b i : Nat} (hb : sp_half b) (hi : i < 90) : i ∉ [b] := by
  unfold sp_half at hb
  simp
  omega
theorem dO_c {b c : Nat} {d : Nat → Int64} {kx : sp_Mem → Option sp_Mem} (hF : 1000 ≤ F) (hb : sp_half b) (hbc : c ≠ b) : ∀ (m i k : Nat) (M : sp_Mem) (y : Nat → Int64), i + m = 25 → m < k → sp_P M 77 2 = some c → sp_P M 77 3 = some b → (∀ j, j < 25 → sp_I M 7 j = kd j) → sp_I M 16 1 = s → (∀ j, j < 25 → sp_L M c j = d j) → (∀ j, j < 25 → sp_L M b j = y j) → ∃ M', fX1_driftOnce_l10 F 6 kx k (nI i) M = kx M' ∧ sp_fr [b] [] M M' ∧ ∀ j, j < 25 → sp_L M' b j = dsO kd (Int32.toInt64 s) d m i y j := by
  intro m
  induction m with
  | zero =>
    intro i k M y hi hk hP2 hP3 hK hS hD hY
    obtain ⟨k, rfl⟩ : ∃ m, k = m + 1 := ⟨k - 1, by omega⟩
    refine ⟨M, ?_, sp_fr.refl _ _ _, hY⟩
    rw [fX1_driftOnce_l10, show i = 25 by omega, if_pos (by decide)]
  | succ m ih =>
    intro i k M y hi hk hP2 hP3 hK hS hD hY
    obtain ⟨k, rfl⟩ : ∃ m, k = m + 1 := ⟨k - 1, by omega⟩
    have hi5 : i < 25 := by omega
    rw [fX1_driftOnce_l10, if_neg (le25 i hi5)]
    simp only [sp_do, hP2, Option.bind_some, sp_ix_nI hi5 (show 25 < 2147483648 by omega), show sp_I M (6 + 10) 1 = s from hS, hD i hi5]
    obtain ⟨M1, e1, e2, e3⟩ := dI_c (F := F) (x := d i * Int32.toInt64 s / 10) (kx := fun b20 b21 M19 => (sp_P M19 77 3).bind fun w22 => (sp_ix 25 b20).bind fun j23 => (sp_ix 25 b20).bind fun j24 => (fX1_driftOnce_l10 F 6 kx k) (b20 + 1) (sp_setL M19 w22 j24 ((sp_L M19 w22 j23) + b21))) hb hi5 4 1 F M y (d i) (by omega) (by omega) hP3 hK hY
    have p1 : ∀ j, sp_P M1 77 j = sp_P M 77 j := fun j => e2.2.2.1 77 j (hf_n hb (by omega)) (by simp)
    obtain ⟨M2, f1, f2, f3⟩ := ih (i + 1) k (sp_setL M1 b i (sp_L M1 b i + (dsI kd i (d i * Int32.toInt64 s / 10) 4 1 y (d i)).2)) (upL (dsI kd i (d i * Int32.toInt64 s / 10) 4 1 y (d i)).1 i (sp_L M1 b i + (dsI kd i (d i * Int32.toInt64 s / 10) 4 1 y (d i)).2)) (by omega) (by omega) ((p1 2).trans hP2) ((p1 3).trans hP3) (fun j hj => (e2.1 7 j (hf_n hb (by omega)) (by simp)).trans (hK j hj)) ((e2.1 16 1 (hf_n hb (by omega)) (by simp)).trans hS) (fun j hj => by
      rw [sp_L_setL, if_neg (fun z => hbc z.1)]
      exact (e2.2.1 c j (by simpa using hbc) (by simp)).trans (hD j hj)) (rel_set e3 _ _)
    refine ⟨M2, ?_, e2.tr ((sp_fr_L (Or.inl (by simp)) rfl).tr f2), ?_⟩
    · refine e1.trans ?_
      rw [p1 3, hP3, Option.bind_some, sp_ix_nI hi5 (by omega), Option.bind_some, Option.bind_some, nI_1]
      exact f1
    · rw [e3 i hi5] at f3
      exact f3
theorem once_c {b c : Nat} {d : Nat → Int64} {M : sp_Mem} (hF : 1000 ≤ F) (hb : sp_half b) (hbc : c ≠ b) (hP2 : sp_P M 77 2 = some c) (hP3 : sp_P M 77 3 = some b) (hK : ∀ j, j < 25 → sp_I M 7 j = kd j) (hS : sp_I M 16 1 = s) (hD : ∀ j, j < 25 → sp_L M c j = d j) : ∃ M', fX1_driftOnce F M 6 = some M' ∧ sp_fr [b] [(77, 2), (77, 3)] M M' ∧ sp_P M' 77 2 = some b ∧ sp_P M' 77 3 = some c ∧ ∀ j, j < 25 → sp_L M' b j = dsO kd (Int32.toInt64 s) d 25 0 (fun _ => 0) j := by
  obtain ⟨M1, e1, e2, e3⟩ := fill_c (F := F) (b := b) (x := 0) (M := M) hF
  have p1 : ∀ j, sp_P M1 77 j = sp_P M 77 j := fun j => e2.2.2.1 77 j (hf_n hb (by omega)) (by simp)
  obtain ⟨M2, f1, f2, f3⟩ := dO_c (F := F) (kd := kd) (s := s) (d := d) (kx := fun M26 => (sp_P M26 77 2).bind fun w27 => (sp_P M26 77 3).bind fun w28 => sp_do (sp_setP M26 77 2 (some w28)) fun M29 => sp_do (sp_setP M29 77 3 (some w27)) fun M30 => some M30) hF hb hbc 25 0 F M1 (fun _ => 0) (by omega) (by omega) ((p1 2).trans hP2) ((p1 3).trans hP3) (fun j hj => (e2.1 7 j (hf_n hb (by omega)) (by simp)).trans (hK j hj)) ((e2.1 16 1 (hf_n hb (by omega)) (by simp)).trans hS) (fun j hj => (e2.2.1 c j (by simpa using hbc) (by simp)).trans (hD j hj)) e3
  have p2 : ∀ j, sp_P M2 77 j = sp_P M 77 j := fun j => (f2.2.2.1 77 j (hf_n hb (by omega)) (by simp)).trans (p1 j)
  refine ⟨sp_setP (sp_setP M2 77 2 (some b)) 77 3 (some c), ?_, ?_, ?_, ?_, fun j hj => ?_⟩
  · unfold fX1_driftOnce
    rw [hP3, Option.bind_some, e1, Option.bind_some]
    refine f1.trans ?_
    rw [p2, p2, hP2, hP3, Option.bind_some, Option.bind_some]
    rfl
  · exact ((e2.tr f2).mono (fun _ h => h) (by simp)).tr ((sp_fr_P (Or.inr (by simp)) rfl).tr (sp_fr_P (Or.inr (by simp)) rfl))
  · simp [sp_P_setP]
  · simp [sp_P_setP]
  · rw [sp_L_setP, sp_L_setP]; exact f3 j hj
theorem for_c {q : Nat} (hF : 1000 ≤ F) (hq : q < 100) : ∀ (m i k : Nat) (M : sp_Mem) (b c : Nat) (d : Nat → Int64), i + m = q → m < k → sp_half b → sp_half c → c ≠ b → sp_P M 77 2 = some c → sp_P M 77 3 = some b → (∀ j, j < 25 → sp_I M 7 j = kd j) → sp_I M 16 1 = s → (∀ j, j < 25 → sp_L M c j = d j) → ∃ M' b' c', fX1_driftFor_l37 F 6 (fun M8 => some M8) k (nI q) (nI i) M = some M' ∧ sp_fr [90, 91] [(77, 2), (77, 3)] M M' ∧ sp_half b' ∧ sp_half c' ∧ c' ≠ b' ∧ sp_P M' 77 2 = some c' ∧ sp_P M' 77 3 = some b' ∧ ∀ j, j < 25 → sp_L M' c' j = dsN kd (Int32.toInt64 s) m d j := by
  intro m
  induction m with
  | zero =>
    intro i k M b c d hi hk hb hc hbc hP2 hP3 hK hS hD
    obtain ⟨k, rfl⟩ : ∃ m, k = m + 1 := ⟨k - 1, by omega⟩
    refine ⟨M, b, c, ?_, sp_fr.refl _ _ _, hb, hc, hbc, hP2, hP3, hD⟩
    rw [fX1_driftFor_l37, if_pos (nI_le (by omega) (by omega))]
  | succ m ih =>
    intro i k M b c d hi hk hb hc hbc hP2 hP3 hK hS hD
    obtain ⟨k, rfl⟩ : ∃ m, k = m + 1 := ⟨k - 1, by omega⟩
    obtain ⟨M1, e1, e2, e3, e4, e5⟩ := once_c hF hb hbc hP2 hP3 hK hS hD
    obtain ⟨M2, b', c', f1, f2, f3⟩ := ih (i + 1) k M1 c b _ (by omega) (by omega) hc hb (fun z => hbc z.symm) e3 e4 (fun j hj => (e2.1 7 j (hf_n hb (by omega)) (by simp)).trans (hK j hj)) ((e2.1 16 1 (hf_n hb (by omega)) (by simp)).trans hS) e5
    refine ⟨M2, b', c', ?_, (e2.mono (fun x hx => by
      have : x = b := by simpa using hx
      rcases hb with h | h <;> simp [this, h]) (fun _ h => h)).tr f2, f3⟩
    rw [fX1_driftFor_l37, if_neg (nI_ge (by omega) (by omega)), e1, Option.bind_some, nI_1]
    exact f1
theorem driftFor_c {M : sp_Mem} {a x q : Nat} (hF : 1000 ≤ F) (hw : sp_WS M) (hne : sp_P M 77 2 ≠ sp_P M 77 3) (hq : q < 100) (ha : a < 6) (hx : x < 25) (ex : sp_I M 8 a = nI x) (hK : ∀ j, j < 25 → sp_I M 7 j = kd j) (hS : sp_I M 16 1 = s) : ∃ M' b' c', fX1_driftFor F M 6 (nI a) (nI q) = some M' ∧ sp_fr [90, 91] [(77, 2), (77, 3)] M M' ∧ sp_half b' ∧ sp_half c' ∧ c' ≠ b' ∧ sp_P M' 77 2 = some c' ∧ sp_P M' 77 3 = some b' ∧ ∀ j, j < 25 → sp_L M' c' j = dsN kd (Int32.toInt64 s) q (upL (fun _ => 0) x 1000000000000) j := by
  obtain ⟨c, hc, hP2⟩ := hw.2.2.2.2.1
  obtain ⟨b, hb, hP3⟩ := hw.2.2.2.2.2.1
  have hbc : c ≠ b := by
    intro z
    apply hne
    rw [hP2, hP3, z]
  obtain ⟨M1, e1, e2, e3⟩ := fill_c (F := F) (b := c) (x := 0) (M := M) hF
  have p1 : ∀ j, sp_P M1 77 j = sp_P M 77 j := fun j => e2.2.2.1 77 j (hf_n hc (by omega)) (by simp)
  obtain ⟨M2, b', c', f1, f2, f3⟩ := for_c (kd := kd) (s := s) hF hq q 0 F (sp_setL M1 c x 1000000000000) b c (upL (fun _ => 0) x 1000000000000) (by omega) (by omega) hb hc hbc ((p1 2).trans hP2) ((p1 3).trans hP3) (fun j hj => (e2.1 7 j (hf_n hc (by omega)) (by simp)).trans (hK j hj)) ((e2.1 16 1 (hf_n hc (by omega)) (by simp)).trans hS) (rel_set e3 _ _)
  refine ⟨M2, b', c', ?_, (((e2.tr (sp_fr_L (Or.inl (by simp)) rfl)).mono (fun x hx => by
      have : x = c := by simpa using hx
      rcases hc with h | h <;> simp [this, h]) (by simp)).tr f2), f3⟩
  unfold fX1_driftFor
  rw [hP2, Option.bind_some, e1, Option.bind_some, sp_ix_nI ha (by omega), Option.bind_some]
  simp only [sp_do]
  rw [show sp_I M1 (6 + 2) a = nI x from (e2.1 8 a (hf_n hc (by omega)) (by simp)).trans ex, cel_e x hx, if_neg (by decide), p1, hP2, Option.bind_some, sp_ix_nI hx (by omega), Option.bind_some]
  exact f1
end Drift
