/-! ===== orders: the plain run, and the class's words ===== -/
def wdO (r : Nat → Int32) (n dn : Nat) (la : Int32) : Nat → Int64 := fun i => if i = 0 then Int32.toInt64 (r 5) else if i = 1 then Int32.toInt64 (nI dn) else if i = 2 then Int32.toInt64 la else if i = 3 then Int32.toInt64 (nI (lsn r n)) else if i < 10 then (if i - 4 < n then Int32.toInt64 (r (15 + (i - 4))) else -1) else (if i - 10 < n then Int32.toInt64 (r (9 + (i - 10))) else -1)
/-- row, what can be undone, done, latest -/
abbrev OS : Type := (Nat → Int32) × Nat × Pe × Nat × Int32
def vI (d : Int32) (o : Option ev_S) (W : Nat → Int64) : Option Int32 := match o with
  | none => some d
  | some f => (f W).map Int64.toInt32
def tsO (o : Option ev_S) (W : Nat → Int64) : Bool := match o with
  | none => true
  | some f => decide (f W = some 1)
def doO (lf : Option (List ev_C)) (n np : Nat) (c : GC) (S : OS) (a b : Int32) : Option OS := match (dD lf S.1 n np c.1 a b).2 with
  | none => none
  | some y => some (y.2, pu S.2.1, pe S.2.1 S.2.2.1 (nI c.1, fun i => S.1 (5 + i)), S.2.2.2.1 + 1, if c.1 = 0 then nI y.1 else S.2.2.2.2)
def suO (d : Int32) (lf : Option (List ev_C)) (n np : Nat) (c : GC) (S : OS) : Option OS := match vI d c.2.1 (wdO S.1 n S.2.2.2.1 S.2.2.2.2) with
  | none => none
  | some a => (match vI d c.2.2.1 (wdO S.1 n S.2.2.2.1 S.2.2.2.2) with
    | none => none
    | some b => doO lf n np c S a b)
def itr (lf : Option (List ev_C)) (n np : Nat) (c : GC) (S : OS) : Option OS := if tsO c.2.2.2.2 (wdO S.1 n S.2.2.2.1 S.2.2.2.2) = false then some S else suO 0 lf n np c S
/-- which sums an order's verb has -/
def sumsOk (c : GC) : Prop := c.1 < 4 ∧ (c.1 = 0 ∨ c.1 = 2 → c.2.1 ≠ none ∧ c.2.2.1 ≠ none) ∧ (c.1 = 1 → c.2.1 ≠ none) ∧ 1 ≤ c.2.2.2.1 ∧ c.2.2.2.1 ≤ 20
theorem vI_d {d d' : Int32} {o : Option ev_S} {W : Nat → Int64} (h : o ≠ none) : vI d o W = vI d' o W := by
  cases o with
  | none => exact (h rfl).elim
  | some f => rfl
theorem suO_d {lf : Option (List ev_C)} {n np : Nat} {c : GC} {S : OS} (h : sumsOk c) (d d' : Int32) : (∃ f, c.2.2.1 = some f) ∨ c.1 = 1 ∨ c.1 = 3 := by
  obtain ⟨h1, h2, h3, _⟩ := h
  cases hc : c.2.2.1 with
  | some f => exact Or.inl ⟨f, rfl⟩
  | none =>
    refine Or.inr ?_
    by_cases z : c.1 = 0 ∨ c.1 = 2
    · exact ((h2 z).2 hc).elim
    · omega
theorem dD_1 {lf : Option (List ev_C)} {r : Nat → Int32} {n np dd : Nat} {a b b' : Int32} (h : dd = 1) : dD lf r n np dd a b = dD lf r n np dd a b' := by
  unfold dD
  rw [if_neg (by omega), if_pos h, if_neg (by omega), if_pos h]
theorem dD_3 {lf : Option (List ev_C)} {r : Nat → Int32} {n np dd : Nat} {a b a' b' : Int32} (h : dd = 3) : dD lf r n np dd a b = dD lf r n np dd a' b' := by
  unfold dD
  rw [if_neg (by omega), if_neg (by omega), if_neg (by omega), if_neg (by omega), if_neg (by omega), if_neg (by omega)]
theorem chk_w {x : Int32} (h1 : -1 ≤ x.toInt) (h2 : x.toInt ≤ 2000) : ev_chk (Int32.toInt64 x) = some (Int32.toInt64 x) := ev_chk_of (by rw [n_l]; omega) (by rw [n_l]; omega)
theorem wdO_ok {r : Nat → Int32} {n dn : Nat} {la : Int32} (hB : i_BT 999 r) (h6 : n ≤ 6) (hd : dn ≤ 1000) (hl1 : -1 ≤ la.toInt) (hl2 : la.toInt ≤ 2000) : ∀ i, i < 16 → ev_chk (wdO r n dn la i) = some (wdO r n dn la i) := by
  intro i hi
  have hls : lsn r n ≤ 6 := by have := lsn_le r n; omega
  unfold wdO
  by_cases h0 : i = 0
  · rw [if_pos h0]; have := hB.2.1; exact chk_w (by have := this.1; omega) (by have := this.2; omega)
  rw [if_neg h0]
  by_cases h1 : i = 1
  · rw [if_pos h1]; exact chk_w (by rw [nI_toInt (by omega)]; omega) (by rw [nI_toInt (by omega)]; omega)
  rw [if_neg h1]
  by_cases h2 : i = 2
  · rw [if_pos h2]; exact chk_w hl1 hl2
  rw [if_neg h2]
  by_cases h3 : i = 3
  · rw [if_pos h3]; exact chk_w (by rw [nI_toInt (by omega)]; omega) (by rw [nI_toInt (by omega)]; omega)
  rw [if_neg h3]
  have m1 : ev_chk (-1) = some (-1) := by decide
  by_cases h10 : i < 10
  · rw [if_pos h10]
    by_cases z : i - 4 < n
    · rw [if_pos z]
      have w := bt_heat hB (show i - 4 < 6 by omega)
      exact chk_w (by have := w.1; omega) (by have := w.2; omega)
    · rw [if_neg z]; exact m1
  · rw [if_neg h10]
    by_cases z : i - 10 < n
    · rw [if_pos z]
      rcases bt_cell hB (show i - 10 < 6 by omega) with e | ⟨x, hx, e⟩
      · rw [e]; decide
      · rw [e]; exact chk_w (by rw [nI_toInt (by omega)]; omega) (by rw [nI_toInt (by omega)]; omega)
    · rw [if_neg z]; exact m1
section Ord0
variable {F n : Nat} {r : Nat → Int32}
theorem Room_fr {M M' : sp_Mem} {A : List Nat} {B : List (Nat × Nat)} {o : Nat} (hf : sp_fr A B M M') (hA : ∀ i, i ∈ A → i < o ∨ o + 10 < i) (hB : ∀ q, q ∈ B → q.1 < o ∨ o + 10 < q.1) (h : i_Room M o r) : i_Room M' o r := by
  have e : ∀ d j, d ≤ 10 → sp_I M' (o + d) j = sp_I M (o + d) j := fun d j hd => hf.1 _ _ (fun w => by have := hA _ w; omega) (fun w => by have := hB _ w; dsimp only at this; omega)
  unfold i_Room
  rw [rowOf_cg (M := M) (fun j _ => show sp_I M' o j = sp_I M o j from e 0 j (by omega)) (fun k _ h2 => funext fun j => e k j h2)]
  exact h
theorem l50_c {kx : sp_Mem → Option sp_Mem} (hn : r 0 = nI n) (h6 : n ≤ 6) : ∀ (m i kf : Nat) (M : sp_Mem), i + m = 6 → m < kf → i_Room M 23 r → ∃ M', fX7_lookAround_l50 F 22 kx kf (nI i) M = kx M' ∧ sp_fr [38] [] M M' ∧ (∀ j, j < 4 + i ∨ (10 ≤ j ∧ j < 10 + i) → sp_I M' 38 j = sp_I M 38 j) ∧ (∀ k, i ≤ k → k < 6 → Int32.toInt64 (sp_I M' 38 (4 + k)) = (if k < n then Int32.toInt64 (r (15 + k)) else -1) ∧ Int32.toInt64 (sp_I M' 38 (10 + k)) = (if k < n then Int32.toInt64 (r (9 + k)) else -1))
  | 0, i, kf, M, hi, hk, hR => by
    obtain ⟨kf, rfl⟩ : ∃ m, kf = m + 1 := ⟨kf - 1, by omega⟩
    refine ⟨M, ?_, sp_fr.refl _ _ _, fun j _ => rfl, fun k h1 h2 => by omega⟩
    rw [fX7_lookAround_l50, if_pos (show (6 : Int32) ≤ nI i by rw [show i = 6 by omega]; decide)]
  | m + 1, i, kf, M, hi, hk, hR => by
    obtain ⟨kf, rfl⟩ : ∃ m, kf = m + 1 := ⟨kf - 1, by omega⟩
    have h4 : sp_I M 23 4 = nI n := (hR 0 (by omega)).trans hn
    have hc : (fX5_hasSpark M 23 (nI i) = 0) = ¬ (0 ≤ (nI i).toInt ∧ (nI i).toInt < n) := has_s (by omega) h4 (nI i)
    rw [nI_toInt (by omega)] at hc
    have i4 : (4 : Int32) + nI i = nI (4 + i) := nI_add 4 i
    have i10 : (10 : Int32) + nI i = nI (10 + i) := nI_add 10 i
    have main : ∀ (x y : Int32), Int32.toInt64 x = (if i < n then Int32.toInt64 (r (15 + i)) else -1) → Int32.toInt64 y = (if i < n then Int32.toInt64 (r (9 + i)) else -1) → fX7_lookAround_l50 F 22 kx (kf + 1) (nI i) M = fX7_lookAround_l50 F 22 kx kf (nI (i + 1)) (sp_setI (sp_setI M 38 (4 + i) x) 38 (10 + i) y) → ∃ M', fX7_lookAround_l50 F 22 kx (kf + 1) (nI i) M = kx M' ∧ sp_fr [38] [] M M' ∧ (∀ j, j < 4 + i ∨ (10 ≤ j ∧ j < 10 + i) → sp_I M' 38 j = sp_I M 38 j) ∧ (∀ k, i ≤ k → k < 6 → Int32.toInt64 (sp_I M' 38 (4 + k)) = (if k < n then Int32.toInt64 (r (15 + k)) else -1) ∧ Int32.toInt64 (sp_I M' 38 (10 + k)) = (if k < n then Int32.toInt64 (r (9 + k)) else -1)) := by
      intro x y hx hy he
      have f2 : sp_fr [38] [] M (sp_setI (sp_setI M 38 (4 + i) x) 38 (10 + i) y) := (sp_fr_I (Or.inl (by decide)) rfl).tr (sp_fr_I (Or.inl (by decide)) rfl)
      obtain ⟨M', r1, r2, r3, r4⟩ := l50_c (kx := kx) hn h6 m (i + 1) kf (sp_setI (sp_setI M 38 (4 + i) x) 38 (10 + i) y) (by omega) (by omega) (Room_fr f2 (by simp) (by simp) hR)
      refine ⟨M', he.trans r1, f2.tr r2, fun j hj => ?_, fun k h1 h2 => ?_⟩
      · rw [r3 j (by omega), I_nf _ _ _ (by omega), I_nf _ _ _ (by omega)]
      · by_cases z : k = i
        · subst z
          rw [r3 (4 + k) (by omega), r3 (10 + k) (by omega), I_nf _ _ _ (by omega), I_eq, I_eq]
          exact ⟨hx, hy⟩
        · exact r4 k (by omega) h2
    by_cases hlt : i < n
    · have e25 : sp_I M 25 i = r (9 + i) := rm_cell hR (show i < 6 by omega)
      have e26 : sp_I M 26 i = r (15 + i) := rm_heat hR (show i < 6 by omega)
      refine main (r (15 + i)) (r (9 + i)) (by rw [if_pos hlt]) (by rw [if_pos hlt]) ?_
      rw [fX7_lookAround_l50, if_neg (show ¬ (6 : Int32) ≤ nI i from nI_ge (b := 6) (by omega) (by omega))]
      unfold fX7_lookAround_j89
      simp only [sp_do]
      have nz : ¬ fX5_hasSpark M (22 + 1) (nI i) = 0 := fun w => (hc.mp w) ⟨by omega, by omega⟩
      rw [if_neg nz, sp_ix_nI (show i < 6 by omega) (by omega), Option.bind_some, i4, sp_ix_nI (show 4 + i < 16 by omega) (by omega), Option.bind_some, if_neg nz, Option.bind_some, i10, sp_ix_nI (show 10 + i < 16 by omega) (by omega), Option.bind_some, nI_1]
      show fX7_lookAround_l50 F 22 kx kf (nI (i + 1)) (sp_setI (sp_setI M 38 (4 + i) (sp_I M 26 i)) 38 (10 + i) (sp_I (sp_setI M 38 (4 + i) (sp_I M 26 i)) 25 i)) = _
      rw [e26, show sp_I (sp_setI M 38 (4 + i) (r (15 + i))) 25 i = r (9 + i) from (congrFun (I_ne _ _ _ (by decide)) i).trans e25]
    · refine main (-1) (-1) (by rw [if_neg hlt]; rfl) (by rw [if_neg hlt]; rfl) ?_
      rw [fX7_lookAround_l50, if_neg (show ¬ (6 : Int32) ≤ nI i from nI_ge (b := 6) (by omega) (by omega))]
      unfold fX7_lookAround_j89
      simp only [sp_do]
      have nz : fX5_hasSpark M (22 + 1) (nI i) = 0 := hc.mpr (fun w => by omega)
      rw [if_pos nz, i4, sp_ix_nI (show 4 + i < 16 by omega) (by omega), Option.bind_some, if_pos nz, i10, sp_ix_nI (show 10 + i < 16 by omega) (by omega), Option.bind_some, nI_1]
theorem look_c {M : sp_Mem} {dn : Nat} {la : Int32} (hF : 1000 ≤ F) (hn : r 0 = nI n) (h6 : n ≤ 6) (hR : i_Room M 23 r) (h5 : sp_I M 22 5 = nI dn) (h4 : sp_I M 22 4 = la) : ∃ M', fX7_lookAround F M 22 = some M' ∧ sp_fr [38] [] M M' ∧ ∀ i, i < 16 → Int32.toInt64 (sp_I M' 38 i) = wdO r n dn la i := by
  let M1 := sp_setI M 38 0 (sp_I M 33 0)
  let M2 := sp_setI M1 38 1 (sp_I M 22 5)
  let M3 := sp_setI M2 38 2 (sp_I M 22 4)
  let M4 := sp_setI M3 38 3 (nI (lsn r n))
  have f3 : sp_fr [38] [] M M3 := ((sp_fr_I (Or.inl (by decide)) rfl).tr (sp_fr_I (Or.inl (by decide)) rfl)).tr (sp_fr_I (Or.inl (by decide)) rfl)
  have f4 : sp_fr [38] [] M M4 := f3.tr (sp_fr_I (Or.inl (by decide)) rfl)
  obtain ⟨M', r1, r2, r3, r4⟩ := l50_c (F := F) (kx := fun M18 => some M18) hn h6 6 0 F M4 rfl (by omega) (Room_fr f4 (by simp) (by simp) hR)
  have e33 : sp_I M 33 0 = r 5 := rm_term hR (show 0 < 4 by omega)
  refine ⟨M', ?_, f4.tr r2, fun i hi => ?_⟩
  · unfold fX7_lookAround
    simp only [sp_do]
    have ls : fX5_looseSparks F M3 23 = some (nI (lsn r n)) := loose_c hF (Room_fr f3 (by simp) (by simp) hR) hn h6
    have q1 : sp_I (sp_setI M 38 0 (sp_I M 33 0)) 22 5 = sp_I M 22 5 := congrFun (I_ne _ _ _ (by decide)) 5
    have q2 : sp_I (sp_setI (sp_setI M 38 0 (sp_I M 33 0)) 38 1 (sp_I M 22 5)) 22 4 = sp_I M 22 4 := by rw [I_ne _ _ _ (by decide), I_ne _ _ _ (by decide)]
    show (fX5_looseSparks F (sp_setI (sp_setI (sp_setI M 38 0 (sp_I M 33 0)) 38 1 (sp_I (sp_setI M 38 0 (sp_I M 33 0)) 22 5)) 38 2 (sp_I (sp_setI (sp_setI M 38 0 (sp_I M 33 0)) 38 1 (sp_I (sp_setI M 38 0 (sp_I M 33 0)) 22 5)) 22 4)) 23).bind _ = _
    rw [q1, q2, ls, Option.bind_some]
    exact r1
  · unfold wdO
    by_cases h0 : i = 0
    · rw [if_pos h0, h0, r3 0 (by omega), I_nf _ _ _ (by decide), I_nf _ _ _ (by decide), I_nf _ _ _ (by decide), I_eq, e33]
    rw [if_neg h0]
    by_cases h1 : i = 1
    · rw [if_pos h1, h1, r3 1 (by omega), I_nf _ _ _ (by decide), I_nf _ _ _ (by decide), I_eq, h5]
    rw [if_neg h1]
    by_cases h2 : i = 2
    · rw [if_pos h2, h2, r3 2 (by omega), I_nf _ _ _ (by decide), I_eq, h4]
    rw [if_neg h2]
    by_cases h3 : i = 3
    · rw [if_pos h3, h3, r3 3 (by omega), I_eq]
    rw [if_neg h3]
    by_cases h10 : i < 10
    · have := (r4 (i - 4) (by omega) (by omega)).1
      rw [show 4 + (i - 4) = i by omega] at this
      rw [if_pos h10, this]
    · have := (r4 (i - 10) (by omega) (by omega)).2
      rw [show 10 + (i - 10) = i by omega] at this
      rw [if_neg h10, this]
end Ord0
