/-! ===== what the clauses of a law tell ===== -/
def ev_ts (W : Nat → Int64) : Option ev_S → Option Int64
  | none => some 1
  | some t => t W
def ev_sm (W : Nat → Int64) : Option ev_S → Option Int64
  | none => some 0
  | some t => t W
def ev_one (W : Nat → Int64) (hd : Nat) (c : ev_C) : Option Int64 := if c.1 = hd then (if ev_ts W c.2.2 = some 1 then ev_sm W c.2.1 else none) else none
def ev_tk (cl : List ev_C) (W : Nat → Int64) (hd : Nat) : Nat → Option Int64
  | 0 => none
  | k + 1 => match (cl[k]?).bind (ev_one W hd) with
    | none => ev_tk cl W hd k
    | some v => some v
/-- the text and the words stand in the memory -/
def ev_TX (M : sp_Mem) (t : Nat) (cl : List ev_C) (W : Nat → Int64) : Prop := 132 ≤ t ∧ ev_LC (sp_I M (t + 1)) (sp_I M (t + 2)) (sp_I M t 2) (sp_I M t 3) (sp_N M (t + 1)) (sp_N M (t + 2)) cl ∧ sp_N M 4 = 10 ∧ (∀ i, i < 10 → Int32.toInt64 (sp_I M 4 i) = W i) ∧ ∀ i, i < 10 → ev_chk (W i) = some (W i)
theorem ev_TX_fr {M M' : sp_Mem} {t : Nat} {cl : List ev_C} {W : Nat → Int64} (hf : sp_fr [3] [] M M') (h : ev_TX M t cl W) : ev_TX M' t cl W := by
  obtain ⟨a, b, c, d, e⟩ := h
  have hI : ∀ i, i ≠ 3 → sp_I M' i = sp_I M i := fun i hi => funext fun j => hf.1 i j (by simp [hi]) (by simp)
  have hN : ∀ i, sp_N M' i = sp_N M i := hf.2.2.2.2.1
  refine ⟨a, ?_, by rw [hN]; exact c, fun i hi => by rw [hI 4 (by decide)]; exact d i hi, e⟩
  rw [hI (t + 1) (by omega), hI (t + 2) (by omega), hI t (by omega), hN, hN]
  exact b
section Tell
variable {F o1 t hd : Nat} {cl : List ev_C} {W : Nat → Int64} {M : sp_Mem}
theorem ev_slot (h : ev_TX M t cl W) {i s : Nat} (hi : i < cl.length) (hs : s < 5) : fX9_slot M t (nI i) (nI s) = some (sp_I M (t + 1) (5 * i + s)) := by
  obtain ⟨a, ⟨b1, b2, b3, b4, b5, b6⟩, c, d, e⟩ := h
  unfold fX9_slot
  have e1 : nI i * 5 + nI s = nI (5 * i + s) := by
    rw [show (5 : Int32) = nI 5 from rfl, show nI i * nI 5 = nI (5 * i) from ?_, nI_add]
    rw [n_eq, t_mul (by rw [nI_toInt (by omega), nI_toInt (by omega)]; omega) (by rw [nI_toInt (by omega), nI_toInt (by omega)]; omega), nI_toInt (by omega), nI_toInt (by omega), nI_toInt (by omega)]
    omega
  simp only [sp_do, e1, nI_pos (show 5 * i + s < 2 ^ 31 by omega), if_false, b3, show Int32.ofNat (5 * cl.length) = nI (5 * cl.length) from rfl, nI_ge (show 5 * i + s < 5 * cl.length by omega) (by omega), sp_ix_nI (show 5 * i + s < 5 * cl.length by omega) (by omega), Option.bind_some]
/-- a SUM, or a TEST, of a clause of the class -/
theorem ev_cval (hF : 1000 ≤ F) (h : ev_TX M t cl W) {x : Int32} {f : ev_S} (ho : ev_CO 10 (sp_I M (t + 2)) (sp_N M (t + 2)) x (some f)) : x ≠ -1 ∧ ∃ y M', fX0_value F M t x 4 = some (y, M') ∧ ev_TX M' t cl W ∧ sp_fr [3] [] M M' ∧ (f W = none → y = -2000000000) ∧ (∀ v, f W = some v → Int32.toInt64 y = v ∧ y ≠ -2000000000) := by
  have h' := h
  obtain ⟨a, ⟨b1, b2, b3, b4, b5, b6⟩, c, d, e⟩ := h
  obtain ⟨p, q, n, e1, e2, e3, e4, e5⟩ := ho
  have hp : p < q := e4.1
  refine ⟨?_, ?_⟩
  · rw [e1]
    intro hx
    have := nI_toInt (show p < 2 ^ 31 by omega)
    rw [hx, show (-1 : Int32).toInt = -1 from rfl] at this
    omega
  · obtain ⟨y, M', g1, g2, g3, g4⟩ := ev_val (F := F) (o1 := t) (o3 := 4) hF (by omega) (by decide) ⟨rfl, Nat.le_refl _, b4, c, by omega, d⟩ b5 e4 e3 e2 e5 e
    exact ⟨y, M', by rw [e1]; exact g1, ev_TX_fr g2 h', g2, g3, g4⟩
theorem ev_tk_s {k : Nat} {c : ev_C} (hk : cl[k]? = some c) : ev_tk cl W hd (k + 1) = match ev_one W hd c with
    | none => ev_tk cl W hd k
    | some v => some v := by
  show (match (cl[k]?).bind (ev_one W hd) with | none => ev_tk cl W hd k | some v => some v) = _
  rw [hk]; rfl
theorem ev_i64_1 {y : Int32} {v : Int64} (h : Int32.toInt64 y = v) : (y = 1) = (v = 1) := by
  apply propext
  rw [← h, l_eq, n_l, n_eq]; exact Iff.rfl
theorem tl_cls (hF : 1000 ≤ F) (hhd : hd < 4) (hT : ∀ (i : Nat) (c : ev_C), cl[i]? = some c → c.1 < 4 ∧ ∀ g, c.2.2 = some g → ev_T g) : ∀ (k n : Nat) (M : sp_Mem), k ≤ cl.length → k < n → ev_TX M t cl W → ∃ x M', fX6_toldBy_l41 F o1 t (fun M17 => some ((-2000000000), M17)) n (nI hd) (nI k - 1) M = some (x, M') ∧ (ev_tk cl W hd k = none → x = -2000000000) ∧ (∀ v, ev_tk cl W hd k = some v → Int32.toInt64 x = v ∧ x ≠ -2000000000) := by
  intro k
  induction k with
  | zero =>
    intro n M _ hn _
    obtain ⟨n, rfl⟩ : ∃ m, n = m + 1 := ⟨n - 1, by omega⟩
    refine ⟨-2000000000, M, ?_, fun _ => rfl, fun v hv => by cases hv⟩
    unfold fX6_toldBy_l41
    rw [if_pos (by decide)]
  | succ k ih =>
    intro n M hk hn hM
    obtain ⟨n, rfl⟩ : ∃ m, n = m + 1 := ⟨n - 1, by omega⟩
    obtain ⟨c, hc⟩ : ∃ c, cl[k]? = some c := ⟨cl[k], List.getElem?_eq_getElem (by omega)⟩
    have next : ∀ M', ev_TX M' t cl W → _ := fun M' h => ih n M' (by omega) (by omega) h
    rw [ev_tk_s hc]
    obtain ⟨c4, cT⟩ := hT k c hc
    have hM' := hM
    obtain ⟨a, ⟨b1, b2, b3, b4, b5, b6⟩, cc, d, e⟩ := hM
    obtain ⟨s0, s1, s4⟩ := b6 k c hc
    have q0 := ev_slot hM' (i := k) (s := 0) (by omega) (by omega)
    have q1 := ev_slot hM' (i := k) (s := 1) (by omega) (by omega)
    have q4 := ev_slot hM' (i := k) (s := 4) (by omega) (by omega)
    have q0 : fX9_slot M t (nI k) 0 = some (nI c.1) := by rw [← s0]; exact q0
    have q1 : fX9_slot M t (nI k) 1 = some (sp_I M (t + 1) (5 * k + 1)) := q1
    have q4 : fX9_slot M t (nI k) 4 = some (sp_I M (t + 1) (5 * k + 4)) := q4
    have hm : nI k + (-1) = nI k - 1 := (Int32.sub_eq_add_neg _ _).symm
    rw [nI_pred]
    unfold fX6_toldBy_l41
    rw [if_neg (nI_pos (by omega)), q0, Option.bind_some, q1, q4, Option.bind_some, Option.bind_some]
    generalize sp_I M (t + 1) (5 * k + 1) = x1 at s1 ⊢
    generalize sp_I M (t + 1) (5 * k + 4) = x4 at s4 ⊢
    by_cases hv : c.1 = hd
    · rw [if_pos (by rw [hv])]
      -- the SUM
      have sum : ∀ M', ev_TX M' t cl W → sp_I M' (t + 2) = sp_I M (t + 2) → sp_N M' (t + 2) = sp_N M (t + 2) → ∃ x M'', fX6_toldBy_j108 F o1 t (fX6_toldBy_l41 F o1 t (fun M17 => some ((-2000000000), M17)) n) (fun M17 => some ((-2000000000), M17)) (nI hd) (nI k) x1 1 M' = some (x, M'') ∧ ((match ev_sm W c.2.1 with | none => ev_tk cl W hd k | some v => some v) = none → x = -2000000000) ∧ (∀ v, (match ev_sm W c.2.1 with | none => ev_tk cl W hd k | some v => some v) = some v → Int32.toInt64 x = v ∧ x ≠ -2000000000) := by
        intro M' h' e1 e2
        unfold fX6_toldBy_j108
        rw [if_neg (by decide)]
        cases h1 : c.2.1 with
        | none =>
          rw [h1] at s1
          have s1 : x1 = -1 := s1
          rw [if_pos s1]
          unfold fX6_toldBy_j145
          rw [if_neg (by decide)]
          refine ⟨0, M', rfl, fun h => (by cases h), fun v hv => ?_⟩
          cases hv
          exact ⟨rfl, by decide⟩
        | some f =>
          rw [h1, ← e1, ← e2] at s1
          obtain ⟨g0, y, M2, g1, g2, _, g3, g4⟩ := ev_cval hF h' s1
          rw [if_neg g0, g1, Option.bind_some]
          unfold fX6_toldBy_j145
          show ∃ x M'', _ ∧ ((match f W with | none => ev_tk cl W hd k | some v => some v) = none → _) ∧ ∀ v, (match f W with | none => ev_tk cl W hd k | some v => some v) = some v → _
          cases hf : f W with
          | none =>
            rw [if_pos (g3 hf), hm]
            exact next M2 g2
          | some v =>
            obtain ⟨k1, k2⟩ := g4 v hf
            rw [if_neg k2]
            refine ⟨y, M2, rfl, fun h => (by cases h), fun w hw => ?_⟩
            cases hw
            exact ⟨k1, k2⟩
      have h1e : ev_one W hd c = if ev_ts W c.2.2 = some 1 then ev_sm W c.2.1 else none := if_pos hv
      rw [h1e]
      cases h2 : c.2.2 with
      | none =>
        rw [h2] at s4
        have s4 : x4 = -1 := s4
        rw [if_pos s4]
        unfold fX6_toldBy_j103
        rw [if_pos (show ev_ts W none = some 1 from rfl)]
        exact sum M hM' rfl rfl
      | some f =>
        rw [h2] at s4
        obtain ⟨g0, y, M2, g1, g2, gf, g3, g4⟩ := ev_cval hF hM' s4
        rw [if_neg g0, g1, Option.bind_some]
        show ∃ x M', fX6_toldBy_j108 F o1 t _ _ (nI hd) (nI k) x1 (if y = 1 then 1 else 0) M2 = _ ∧ _
        have hts : ev_ts W (some f) = f W := rfl
        rw [hts]
        by_cases hy : f W = some 1
        · obtain ⟨k1, k2⟩ := g4 1 hy
          have : y = 1 := by rw [ev_i64_1 k1]
          rw [if_pos this, if_pos hy]
          exact sum M2 g2 (funext fun j => gf.1 _ _ (by simp; omega) (by simp)) (gf.2.2.2.2.1 _)
        · have : ¬ y = 1 := by
            intro h
            cases hf : f W with
            | none =>
              have := g3 hf
              rw [h] at this
              exact absurd this (by decide)
            | some v =>
              obtain ⟨k1, k2⟩ := g4 v hf
              rw [ev_i64_1 k1] at h
              rw [h] at hf
              exact hy hf
          rw [if_neg this, if_neg hy]
          unfold fX6_toldBy_j108
          rw [if_pos rfl]
          unfold fX6_toldBy_j145
          rw [if_pos rfl, hm]
          exact next M2 g2
    · rw [if_neg (by rw [nI_eq (by omega) (by omega)]; exact hv)]
      have h1e : ev_one W hd c = none := if_neg hv
      rw [h1e, hm]
      exact next M hM'
end Tell
