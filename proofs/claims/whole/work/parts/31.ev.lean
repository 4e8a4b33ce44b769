/-! ===== what a SUM or a TEST tells: a plain machine over the steps ===== -/
abbrev ev_S : Type := (Nat → Int64) → Option Int64
def ev_chk (v : Int64) : Option Int64 := if v < (-1000000000) then none else (if v ≤ 1000000000 then some v else none)
def ev_jn (op : Int32) (a b : Int64) : Option Int64 := (fX0_joined op a b).bind ev_chk
def ev_bin (op : Int32) : Prop := op = 3 ∨ op = 4 ∨ op = 5 ∨ op = 6 ∨ op = 7 ∨ op = 8 ∨ op = 9 ∨ op = 10
def ev_pu (c : Int32 × Int32) (pc : Nat) (s : List Int64) (v : Int64) : Option (Option (Nat × List Int64)) := if s.length < 52 then some (some (pc + 1, v :: s)) else none
def ev_nt (pc : Nat) : List Int64 → Option (Option (Nat × List Int64))
  | [] => none
  | v :: t => if v = 0 ∨ v = 1 then some (some (pc + 1, (1 - v) :: t)) else none
def ev_ao (c : Int32 × Int32) (pc : Nat) : List Int64 → Option (Option (Nat × List Int64))
  | [] => none
  | v :: t => if v = (if c.1 = 13 then 1 else 0) then (if nI pc < c.2 then some (some (c.2.toNatClampNeg, v :: t)) else none) else some (some (pc + 1, t))
def ev_bi (c : Int32 × Int32) (pc : Nat) : List Int64 → Option (Option (Nat × List Int64))
  | b :: a :: t => some ((ev_jn c.1 a b).map fun v => (pc + 1, v :: t))
  | _ => none
def ev_s1 (nw : Nat) (c : Int32 × Int32) (W : Nat → Int64) (pc : Nat) (s : List Int64) : Option (Option (Nat × List Int64)) :=
  if c.1 = 1 then ev_pu c pc s (Int32.toInt64 c.2)
  else if c.1 = 2 then (if 0 ≤ c.2 ∧ c.2.toNatClampNeg < nw then ev_pu c pc s (W c.2.toNatClampNeg) else none)
  else if c.1 = 11 then ev_nt pc s
  else if c.1 = 12 ∨ c.1 = 13 then ev_ao c pc s
  else if c.1 = 3 ∨ c.1 = 4 ∨ c.1 = 5 ∨ c.1 = 6 ∨ c.1 = 7 ∨ c.1 = 8 ∨ c.1 = 9 ∨ c.1 = 10 then ev_bi c pc s
  else none
def ev_st (nw : Nat) (code : Nat → Int32 × Int32) (W : Nat → Int64) : Option (Nat × List Int64) → Option (Option (Nat × List Int64))
  | none => some none
  | some (pc, s) => ev_s1 nw (code pc) W pc s
def ev_it (nw : Nat) (code : Nat → Int32 × Int32) (W : Nat → Int64) : Nat → Option (Nat × List Int64) → Option (Option (Nat × List Int64))
  | 0, x => some x
  | k + 1, x => (ev_st nw code W x).bind (ev_it nw code W k)
section EvIt
variable {nw : Nat} {code code' : Nat → Int32 × Int32} {W : Nat → Int64}
theorem ev_it_none (k : Nat) : ev_it nw code W k none = some none := by
  induction k with
  | zero => rfl
  | succ k ih => show (some none).bind (ev_it nw code W k) = _; exact ih
theorem ev_it_add (a b : Nat) : ∀ x, ev_it nw code W (a + b) x = (ev_it nw code W a x).bind (ev_it nw code W b) := by
  induction a with
  | zero => intro x; rw [Nat.zero_add]; rfl
  | succ a ih =>
    intro x
    rw [show a + 1 + b = (a + b) + 1 by omega]
    show (ev_st nw code W x).bind (ev_it nw code W (a + b)) = ((ev_st nw code W x).bind (ev_it nw code W a)).bind (ev_it nw code W b)
    cases ev_st nw code W x with
    | none => rfl
    | some y => exact ih y
theorem ev_it_1 (x : Option (Nat × List Int64)) : ev_it nw code W 1 x = ev_st nw code W x := by
  show (ev_st nw code W x).bind (fun y => some y) = _
  cases ev_st nw code W x <;> rfl
/-- bounded words, bounded values -/
def ev_G (nw : Nat) (f : ev_S) : Prop := ∀ W : Nat → Int64, (∀ i, i < nw → ev_chk (W i) = some (W i)) → ∀ v, f W = some v → ev_chk v = some v
def ev_Seg (nw : Nat) (code : Nat → Int32 × Int32) (p q : Nat) (f : ev_S) (n : Nat) : Prop :=
  p < q ∧ 1 ≤ n ∧ ev_G nw f ∧ ∀ code' : Nat → Int32 × Int32, (∀ i, p ≤ i → i < q → code' i = code i) → ∀ (W : Nat → Int64) (s : List Int64), s.length + n ≤ 52 → ∃ k, k ≤ q - p ∧ ev_it nw code' W k (some (p, s)) = some ((f W).map fun v => (q, v :: s))
/-- a TEST's value is 0 or 1 -/
def ev_T (f : ev_S) : Prop := ∀ W v, f W = some v → v = 0 ∨ v = 1
variable {p q r n m : Nat} {f g : ev_S} {op : Int32}
theorem ev_T_not (h : ev_T f) : ev_T (fun W => (f W).map fun a => 1 - a) := by
  intro W v hv
  cases hf : f W with
  | none => simp [hf] at hv
  | some a =>
    simp only [hf, Option.map_some, Option.some.injEq] at hv
    rcases h W a hf with rfl | rfl
    · right; rw [← hv]; decide
    · left; rw [← hv]; decide
theorem ev_jn_ok {a b v : Int64} (h : ev_jn op a b = some v) : ev_chk v = some v := by
  unfold ev_jn at h
  cases hj : fX0_joined op a b with
  | none => rw [hj] at h; cases h
  | some z =>
    rw [hj, Option.bind_some] at h
    have h2 := h
    unfold ev_chk at h
    split at h
    · cases h
    · split at h
      · cases h; exact h2
      · cases h
theorem ev_Seg_cg (h : ev_Seg nw code p q f n) (hc : ∀ i, p ≤ i → i < q → code' i = code i) : ev_Seg nw code' p q f n :=
  ⟨h.1, h.2.1, h.2.2.1, fun c2 h2 => h.2.2.2 c2 (fun i a b => (h2 i a b).trans (hc i a b))⟩
theorem ev_Seg_num {a : Int32} (h : code p = (1, a)) (hr : ev_chk (Int32.toInt64 a) = some (Int32.toInt64 a)) : ev_Seg nw code p (p + 1) (fun _ => some (Int32.toInt64 a)) 1 := by
  refine ⟨by omega, by omega, fun W hW v hv => by cases hv; exact hr, fun c2 h2 W s hs => ⟨1, by omega, ?_⟩⟩
  rw [ev_it_1]
  have e : c2 p = (1, a) := (h2 p (by omega) (by omega)).trans h
  simp [ev_st, ev_s1, e, ev_pu, show s.length < 52 by omega]
theorem ev_Seg_word {j : Nat} (h : code p = (2, nI j)) (hj : j < nw) (hn : nw < 100) : ev_Seg nw code p (p + 1) (fun W => some (W j)) 1 := by
  refine ⟨by omega, by omega, fun W hW v hv => by cases hv; exact hW j hj, fun c2 h2 W s hs => ⟨1, by omega, ?_⟩⟩
  rw [ev_it_1]
  have e : c2 p = (2, nI j) := (h2 p (by omega) (by omega)).trans h
  simp [ev_st, ev_s1, e, ev_pu, show s.length < 52 by omega, nI_pos' (show j < 2 ^ 31 by omega), nI_clamp (show j < 2 ^ 31 by omega), hj]
theorem ev_s1_bin {c : Int32 × Int32} {pc : Nat} {s : List Int64} (h : ev_bin c.1) : ev_s1 nw c W pc s = ev_bi c pc s := by
  have hn : ¬ c.1 = 1 ∧ ¬ c.1 = 2 ∧ ¬ c.1 = 11 ∧ ¬ (c.1 = 12 ∨ c.1 = 13) := by
    rcases h with h | h | h | h | h | h | h | h <;> (rw [h]; decide)
  unfold ev_s1
  rw [if_neg hn.1, if_neg hn.2.1, if_neg hn.2.2.1, if_neg hn.2.2.2]
  exact if_pos h
theorem ev_Seg_bin {c : Int32 × Int32} (h1 : ev_Seg nw code p q f n) (h2 : ev_Seg nw code q r g m) (hc : code r = c) (hk : ev_bin c.1) : ev_Seg nw code p (r + 1) (fun W => (f W).bind fun a => (g W).bind fun b => ev_jn c.1 a b) (n + m) := by
  obtain ⟨a1, a2, a0, a3⟩ := h1
  obtain ⟨b1, b2, b0, b3⟩ := h2
  refine ⟨by omega, by omega, fun W hW v hv => ?_, fun c2 h2 W s hs => ?_⟩
  · cases hf : f W with
    | none => simp [hf] at hv
    | some a =>
      cases hg : g W with
      | none => simp [hf, hg] at hv
      | some b =>
        simp only [hf, hg, Option.bind_some] at hv
        exact ev_jn_ok hv
  obtain ⟨k1, l1, e1⟩ := a3 c2 (fun i x y => h2 i x (by omega)) W s (by omega)
  cases hf : f W with
  | none =>
    refine ⟨k1, by omega, ?_⟩
    rw [e1, hf]; simp [hf]
  | some a =>
    obtain ⟨k2, l2, e2⟩ := b3 c2 (fun i x y => h2 i (by omega) (by omega)) W (a :: s) (by simp; omega)
    rw [hf] at e1
    cases hg : g W with
    | none =>
      refine ⟨k1 + k2, by omega, ?_⟩
      rw [ev_it_add, e1]
      show ev_it nw c2 W k2 (some (q, a :: s)) = _
      rw [e2, hg]; simp [hf, hg]
    | some b =>
      refine ⟨k1 + k2 + 1, by omega, ?_⟩
      rw [ev_it_add, ev_it_add, e1]
      show (ev_it nw c2 W k2 (some (q, a :: s))).bind _ = _
      rw [e2, hg]
      show ev_it nw c2 W 1 (some (r, b :: a :: s)) = _
      rw [ev_it_1]
      have e : c2 r = c := (h2 r (by omega) (by omega)).trans hc
      show ev_s1 nw (c2 r) W r (b :: a :: s) = _
      rw [e, ev_s1_bin hk]
      simp only [ev_bi, hf, hg, Option.bind_some]
theorem ev_Seg_not {c : Int32 × Int32} (h1 : ev_Seg nw code p q f n) (ht : ev_T f) (hc : code q = c) (hk : c.1 = 11) : ev_Seg nw code p (q + 1) (fun W => (f W).map fun a => 1 - a) n := by
  obtain ⟨a1, a2, a0, a3⟩ := h1
  refine ⟨by omega, by omega, fun W hW v hv => ?_, fun c2 h2 W s hs => ?_⟩
  · rcases ev_T_not ht W v hv with rfl | rfl <;> decide
  obtain ⟨k1, l1, e1⟩ := a3 c2 (fun i x y => h2 i x (by omega)) W s (by omega)
  cases hf : f W with
  | none =>
    refine ⟨k1, by omega, ?_⟩
    rw [e1, hf]; simp [hf]
  | some a =>
    refine ⟨k1 + 1, by omega, ?_⟩
    rw [ev_it_add, e1, hf]
    show ev_it nw c2 W 1 (some (q, a :: s)) = _
    rw [ev_it_1]
    have e : c2 q = c := (h2 q (by omega) (by omega)).trans hc
    show ev_s1 nw (c2 q) W q (a :: s) = _
    rw [e]
    unfold ev_s1
    have := ht W a hf
    simp [hk, ev_nt, this, hf]
theorem ev_Seg_ao {c : Int32 × Int32} (h1 : ev_Seg nw code p q f n) (h2 : ev_Seg nw code (q + 1) r g m) (hc : code q = c) (hk : c.1 = 12 ∨ c.1 = 13) (hr : c.2 = nI r) (hr2 : r < 2 ^ 31) : ev_Seg nw code p r (fun W => (f W).bind fun a => if a = (if c.1 = 13 then 1 else 0) then some a else g W) (n + m) := by
  obtain ⟨a1, a2, a0, a3⟩ := h1
  obtain ⟨b1, b2, b0, b3⟩ := h2
  refine ⟨by omega, by omega, fun W hW v hv => ?_, fun c2 h2 W s hs => ?_⟩
  · cases hf : f W with
    | none => simp [hf] at hv
    | some a =>
      simp only [hf, Option.bind_some] at hv
      by_cases ha : a = (if c.1 = 13 then 1 else 0)
      · rw [if_pos ha] at hv; cases hv; exact a0 W hW _ hf
      · rw [if_neg ha] at hv; exact b0 W hW _ hv
  obtain ⟨k1, l1, e1⟩ := a3 c2 (fun i x y => h2 i x (by omega)) W s (by omega)
  have e : c2 q = c := (h2 q (by omega) (by omega)).trans hc
  have hs1 : ∀ a, ev_it nw c2 W 1 (some (q, a :: s)) = if a = (if c.1 = 13 then 1 else 0) then some (some (r, a :: s)) else some (some (q + 1, s)) := by
    intro a
    rw [ev_it_1]
    show ev_s1 nw (c2 q) W q (a :: s) = _
    rw [e]
    unfold ev_s1
    have hq : nI q < nI r := nI_lt (by omega) hr2
    rcases hk with hk | hk <;> simp [hk, ev_ao, hr, nI_clamp hr2, hq]
  cases hf : f W with
  | none =>
    refine ⟨k1, by omega, ?_⟩
    rw [e1, hf]; simp [hf]
  | some a =>
    rw [hf] at e1
    by_cases ha : a = (if c.1 = 13 then 1 else 0)
    · refine ⟨k1 + 1, by omega, ?_⟩
      rw [ev_it_add, e1]
      show ev_it nw c2 W 1 (some (q, a :: s)) = _
      rw [hs1, if_pos ha]
      simp only [hf, Option.bind_some, if_pos ha, Option.map_some]
    · obtain ⟨k2, l2, e2⟩ := b3 c2 (fun i x y => h2 i (by omega) (by omega)) W s (by omega)
      refine ⟨k1 + 1 + k2, by omega, ?_⟩
      rw [ev_it_add, ev_it_add, e1]
      show (ev_it nw c2 W 1 (some (q, a :: s))).bind _ = _
      rw [hs1, if_neg ha]
      show ev_it nw c2 W k2 (some (q + 1, s)) = _
      rw [e2]
      simp only [hf, Option.bind_some, if_neg ha]
theorem ev_T_cmp (hk : op = 8 ∨ op = 9 ∨ op = 10) : ev_T (fun W => (f W).bind fun a => (g W).bind fun b => ev_jn op a b) := by
  intro W v hv
  cases hf : f W with
  | none => simp [hf] at hv
  | some a =>
    cases hg : g W with
    | none => simp [hf, hg] at hv
    | some b =>
      simp only [hf, hg, Option.bind_some] at hv
      have c0 : ev_chk 0 = some 0 := by decide
      have c1 : ev_chk 1 = some 1 := by decide
      unfold ev_jn fX0_joined at hv
      rcases hk with rfl | rfl | rfl
      · by_cases h : b ≤ a <;> simp [h, c0, c1] at hv <;> simp [← hv]
      · by_cases h : a ≤ b <;> simp [h, c0, c1] at hv <;> simp [← hv]
      · by_cases h : a = b <;> simp [h, c0, c1] at hv <;> simp [← hv]
theorem ev_T_ao {o : Int32} (h : ev_T f) (h2 : ev_T g) : ev_T (fun W => (f W).bind fun a => if a = (if o = 13 then 1 else 0) then some a else g W) := by
  intro W v hv
  cases hf : f W with
  | none => simp [hf] at hv
  | some a =>
    simp only [hf, Option.bind_some] at hv
    by_cases ha : a = (if o = 13 then 1 else 0)
    · rw [if_pos ha] at hv; cases hv; exact h W _ hf
    · rw [if_neg ha] at hv; exact h2 W v hv
theorem ev_1m (a : Int64) : (1 : Int64) - (1 - a) = a := by
  rw [Int64.sub_eq_iff_eq_add, Int64.add_comm, Int64.sub_add_cancel]
theorem ev_nn (f : ev_S) : (fun W => ((fun W => (f W).map fun a => 1 - a) W).map fun a => 1 - a) = f := by
  funext W
  cases hf : f W with
  | none => simp [hf]
  | some a => simp only [hf, Option.map_some, ev_1m]
end EvIt
/-! ===== the class's calculator works the plain machine ===== -/
def ev_cc (stp : Nat → Int32) (len : Nat) (i : Nat) : Int32 × Int32 := if i < len then (stp i &&& 31, stp i >>> (5 &&& 31)) else (0, 0)
def ev_CS (v : Nat → Int32) : List Int64 → Prop
  | [] => True
  | x :: t => Int32.toInt64 (v t.length) = x ∧ ev_CS v t
theorem ev_CS_ext {v v' : Nat → Int32} : ∀ {s : List Int64}, (∀ i, i < s.length → v' i = v i) → ev_CS v s → ev_CS v' s
  | [], _, _ => trivial
  | x :: t, h, hs => ⟨by rw [h t.length (by simp)]; exact hs.1, ev_CS_ext (fun i hi => h i (by simp; omega)) hs.2⟩
theorem ev_joined (op : Int32) (a b : Int64) : ∃ v, fX0_joined op a b = some v := by
  unfold fX0_joined
  by_cases hb : b = 0
  · simp only [hb, if_true]
    repeat' split
    all_goals exact ⟨_, rfl⟩
  · simp only [hb, if_false]
    repeat' split
    all_goals exact ⟨_, rfl⟩
theorem ev_back {v : Int64} (h1 : ¬ v < (-1000000000)) (h2 : v ≤ 1000000000) : Int32.toInt64 (Int64.toInt32 v) = v := by
  rw [l_lt, show (-1000000000 : Int64).toInt = -1000000000 from rfl] at h1
  rw [l_le, show (1000000000 : Int64).toInt = 1000000000 from rfl] at h2
  rw [l_eq, n_l, l_to (by omega) (by omega)]
theorem ev_setCS {M : sp_Mem} {s : List Int64} {x : Int32} (h : ev_CS (sp_I M 3) s) : ev_CS (sp_I (sp_setI M 3 s.length x) 3) (Int32.toInt64 x :: s) := by
  refine ⟨by rw [sp_I_setI, if_pos ⟨rfl, rfl⟩], ev_CS_ext (fun i hi => ?_) h⟩
  rw [sp_I_setI, if_neg (by omega)]
theorem ev_setCSn {M : sp_Mem} {s : List Int64} {x : Int32} {j : Nat} (hj : s.length ≤ j) (h : ev_CS (sp_I M 3) s) : ev_CS (sp_I (sp_setI M 3 j x) 3) s := by
  refine ev_CS_ext (fun i hi => ?_) h
  rw [sp_I_setI, if_neg (by omega)]
/-- a choice over an option, kept closed -/
def ev_om {α β : Type} (y : Option α) (a : β) (f : α → β) : β := match y with
  | none => a
  | some q => f q
theorem ev_om_some {α β : Type} (q : α) (a : β) (f : α → β) : ev_om (some q) a f = f q := rfl
section EvCls
variable {F o1 o3 : Nat} {kx : sp_Mem → Option (Int32 × sp_Mem)} {stp : Nat → Int32} {len Nw : Nat} {W : Nat → Int64}
/-- what the memory must hold for the calculator -/
def ev_CM (M : sp_Mem) (o1 o3 : Nat) (stp : Nat → Int32) (len Nw : Nat) (W : Nat → Int64) : Prop := sp_I M (o1 + 2) = stp ∧ len ≤ sp_N M (o1 + 2) ∧ sp_N M (o1 + 2) ≤ 400 ∧ sp_N M o3 = Nw ∧ Nw ≤ 16 ∧ ∀ i, i < Nw → Int32.toInt64 (sp_I M o3 i) = W i
theorem ev_CM_set {M : sp_Mem} {j : Nat} {x : Int32} (h1 : o1 ≠ 1) (h3 : o3 ≠ 3) (h : ev_CM M o1 o3 stp len Nw W) : ev_CM (sp_setI M 3 j x) o1 o3 stp len Nw W := by
  obtain ⟨a, b, b2, c, d, e⟩ := h
  refine ⟨?_, b, b2, c, d, fun i hi => ?_⟩
  · rw [← a]; funext i; rw [sp_I_setI, if_neg (by omega)]
  · rw [sp_I_setI, if_neg (by omega)]; exact e i hi
theorem ev_top (n : Nat) : nI n - 1 + 1 = nI n := Int32.sub_add_cancel _ _
theorem ev_top2 (n : Nat) : nI (n + 1) - 1 + (-1) = nI n - 1 := by
  rw [nI_pred]; exact (Int32.sub_eq_add_neg _ _).symm
/-- one step -/
theorem ev_cls1 (h1 : o1 ≠ 1) (h3 : o3 ≠ 3) {M : sp_Mem} {pc : Nat} {s : List Int64} {y : Option (Nat × List Int64)} (n : Nat) (hy : ev_st Nw (ev_cc stp len) W (some (pc, s)) = some y) (hM : ev_CM M o1 o3 stp len Nw W) (hs : ev_CS (sp_I M 3) s) (hl : s.length ≤ 52) : ∃ M', sp_fr [3] [] M M' ∧ ev_CM M' o1 o3 stp len Nw W ∧ fX0_value_l24 F o1 o3 kx (n + 1) (nI s.length - 1) (nI len) (nI pc) M = ev_om y (some (-2000000000, M')) (fun q => fX0_value_l24 F o1 o3 kx n (nI q.2.length - 1) (nI len) (nI q.1) M') ∧ (∀ q, y = some q → ev_CS (sp_I M' 3) q.2 ∧ q.2.length ≤ 52) := by
  have hM' := hM
  obtain ⟨m1, m2, m3, m4, m5, m6⟩ := hM
  have hp : pc < len := by
    apply Decidable.byContradiction
    intro hp
    simp [ev_st, ev_s1, ev_cc, hp] at hy
  have hc : ev_cc stp len pc = (stp pc &&& 31, stp pc >>> (5 &&& 31)) := by unfold ev_cc; rw [if_pos hp]
  have hix : sp_ix (sp_N M (o1 + 2)) (nI pc) = some pc := sp_ix_nI (by omega) (by omega)
  have hle : ¬ nI len ≤ nI pc := nI_ge hp (by omega)
  have hbody : ∀ X, fX0_value_l24 F o1 o3 kx (n + 1) (nI s.length - 1) (nI len) (nI pc) M = X ↔ fX0_value_l24 F o1 o3 kx (n + 1) (nI s.length - 1) (nI len) (nI pc) M = X := fun _ => Iff.rfl
  rw [fX0_value_l24]
  simp only [hle, if_false, hix, Option.bind_some, sp_do, m1]
  show ∃ M', _
  replace hy : ev_s1 Nw (ev_cc stp len pc) W pc s = some y := hy
  rw [hc] at hy
  generalize hu : stp pc &&& 31 = u at hy ⊢
  generalize ha : stp pc >>> (5 &&& 31) = a at hy ⊢
  unfold ev_s1 at hy
  simp only at hy
  by_cases c1 : u = 1
  · -- a number
    subst c1
    simp only [if_true, ev_pu] at hy
    by_cases hl2 : s.length < 52
    · rw [if_pos hl2] at hy
      cases hy
      refine ⟨sp_setI M 3 s.length a, sp_fr_I (Or.inl (by decide)) rfl, ev_CM_set h1 h3 hM', ?_, ?_⟩
      · simp only [if_true, fX0_value_j66, fX0_value_j95, ev_top, show ¬ (52 : Int32) ≤ nI s.length from nI_ge (b := 52) hl2 (by omega), if_false, show ¬ (1 : Int32) = 2 by decide, sp_ix_nI hl2 (by omega), Option.bind_some, sp_do, nI_1]
        rw [ev_om_some]; dsimp only; rw [List.length_cons, nI_pred]
      · intro q hq
        cases hq
        exact ⟨ev_setCS hs, by simp; omega⟩
    · rw [if_neg hl2] at hy; cases hy
  · by_cases c2 : u = 2
    · subst c2
      simp only [show ¬ (2 : Int32) = 1 by decide, if_false, if_true] at hy
      by_cases hw : 0 ≤ a ∧ a.toNatClampNeg < Nw
      · rw [if_pos hw] at hy
        unfold ev_pu at hy
        by_cases hl2 : s.length < 52
        · rw [if_pos hl2] at hy
          cases hy
          obtain ⟨j, hj, rfl⟩ := nI_of (x := a) (by rw [n_lt]; have := hw.1; rw [n_le] at this; omega)
          rw [nI_clamp hj] at hw ⊢
          refine ⟨sp_setI M 3 s.length (sp_I M o3 j), sp_fr_I (Or.inl (by decide)) rfl, ev_CM_set h1 h3 hM', ?_, ?_⟩
          · simp only [show ¬ (2 : Int32) = 1 by decide, if_false, if_true, fX0_value_j66, fX0_value_j95, ev_top, show ¬ (52 : Int32) ≤ nI s.length from nI_ge (b := 52) hl2 (by omega), sp_ix_nI hl2 (by omega), Option.bind_some, sp_do, nI_1, m4, show (Int32.ofNat Nw) = nI Nw from rfl, show nI j < nI Nw from nI_lt hw.2 (by omega), sp_ix_nI hw.2 (by omega)]
            rw [ev_om_some]; dsimp only; rw [List.length_cons, nI_pred]
          · intro q hq
            cases hq
            refine ⟨?_, by simp; omega⟩
            rw [← m6 j hw.2]
            exact ev_setCS hs
        · rw [if_neg hl2] at hy; cases hy
      · rw [if_neg hw] at hy; cases hy
    · rw [if_neg c1, if_neg c2] at hy
      rw [if_neg c1, if_neg c2]
      -- from here on the stack isn't empty
      cases s with
      | nil =>
        exfalso
        simp only [ev_nt, ev_ao, ev_bi] at hy
        repeat' split at hy
        all_goals cases hy
      | cons v t =>
        obtain ⟨hv, ht⟩ := hs
        rw [List.length_cons] at hl
        have z0 : ¬ nI (t.length + 1) - 1 < 0 := by rw [nI_pred]; exact nI_pos (by omega)
        have c0 : ¬ u = 0 := by
          rintro rfl
          simp [show ¬ (0 : Int32) = 11 by decide, show ¬ (0 : Int32) = 12 by decide, show ¬ (0 : Int32) = 13 by decide, show ¬ (0 : Int32) = 3 by decide, show ¬ (0 : Int32) = 4 by decide, show ¬ (0 : Int32) = 5 by decide, show ¬ (0 : Int32) = 6 by decide, show ¬ (0 : Int32) = 7 by decide, show ¬ (0 : Int32) = 8 by decide, show ¬ (0 : Int32) = 9 by decide, show ¬ (0 : Int32) = 10 by decide] at hy
        rw [List.length_cons, if_neg z0, if_neg c0]
        have hixt : sp_ix 52 (nI (t.length + 1) - 1) = some t.length := by rw [nI_pred]; exact sp_ix_nI (by omega) (by omega)
        by_cases c11 : u = 11
        · rw [if_pos c11] at hy
          rw [if_pos c11]
          unfold ev_nt at hy
          simp only at hy
          by_cases hv2 : v = 0 ∨ v = 1
          · rw [if_pos hv2] at hy
            cases hy
            refine ⟨sp_setI M 3 t.length (1 - sp_I M 3 t.length), sp_fr_I (Or.inl (by decide)) rfl, ev_CM_set h1 h3 hM', ?_, ?_⟩
            · simp only [hixt, Option.bind_some, nI_1]
              rfl
            · intro q hq
              cases hq
              refine ⟨?_, by simp; omega⟩
              have : (1 : Int64) - v = Int32.toInt64 (1 - sp_I M 3 t.length) := by
                have e : sp_I M 3 t.length = 0 ∨ sp_I M 3 t.length = 1 := by
                  rcases hv2 with h | h
                  · left; rw [n_eq, ← n_l, hv, h]; rfl
                  · right; rw [n_eq, ← n_l, hv, h]; rfl
                rcases e with e | e
                · rw [e] at hv; rw [e, ← hv]; decide
                · rw [e] at hv; rw [e, ← hv]; decide
              rw [this]
              exact ev_setCS ht
          · rw [if_neg hv2] at hy; cases hy
        · rw [if_neg c11] at hy
          rw [if_neg c11]
          by_cases c12 : u = 12 ∨ u = 13
          · rw [if_pos c12] at hy
            unfold ev_ao at hy
            simp only at hy
            have hgo : ∀ kb : Int32 → Int32 → Int32 → sp_Mem → Option (Int32 × sp_Mem), fX0_value_j188 F o1 o3 kb kx (nI (t.length + 1) - 1) (nI len) (nI pc) u a M = if v = (if u = 13 then 1 else 0) then kb (nI (t.length + 1) - 1) (nI len) (sp_max (nI pc) (a - 1) + 1) M else kb (nI t.length - 1) (nI len) (nI (pc + 1)) M := by
              intro kb
              unfold fX0_value_j188 fX0_value_j207
              simp only [hixt, Option.bind_some, sp_do, ev_top2, nI_1]
              have : (sp_I M 3 t.length = if u = 13 then 1 else 0) = (v = if u = 13 then 1 else 0) := by
                apply propext
                rw [← hv]
                by_cases u13 : u = 13
                · rw [if_pos u13, if_pos u13, l_eq, n_l, n_eq]; exact Iff.rfl
                · rw [if_neg u13, if_neg u13, l_eq, n_l, n_eq]; exact Iff.rfl
              simp only [this]
            have hgo2 : (if u = 12 then fX0_value_j188 F o1 o3 (fX0_value_l24 F o1 o3 kx n) kx (nI (t.length + 1) - 1) (nI len) (nI pc) u a M else (if u = 13 then fX0_value_j188 F o1 o3 (fX0_value_l24 F o1 o3 kx n) kx (nI (t.length + 1) - 1) (nI len) (nI pc) u a M else none)) = fX0_value_j188 F o1 o3 (fX0_value_l24 F o1 o3 kx n) kx (nI (t.length + 1) - 1) (nI len) (nI pc) u a M := by
              rcases c12 with h | h
              · rw [if_pos h]
              · rw [if_neg (by rw [h]; decide), if_pos h]
            by_cases hv2 : v = (if u = 13 then 1 else 0)
            · rw [if_pos hv2] at hy
              by_cases hj : nI pc < a
              · rw [if_pos hj] at hy
                cases hy
                obtain ⟨j, hj2, rfl⟩ := nI_of (x := a) (by rw [n_lt] at hj ⊢; rw [nI_toInt (show pc < 2 ^ 31 by omega)] at hj; show ¬ a.toInt < 0; omega)
                have hpj : pc < j := (nI_ltI (by omega) hj2).mp hj
                refine ⟨M, sp_fr.refl _ _ _, hM', ?_, ?_⟩
                · have e : sp_max (nI pc) (nI j - 1) + 1 = nI j := by
                    obtain ⟨i, rfl⟩ : ∃ i, j = i + 1 := ⟨j - 1, by omega⟩
                    rw [nI_pred]
                    unfold sp_max
                    by_cases hpi : pc < i
                    · rw [if_pos (nI_lt hpi (by omega)), nI_1]
                    · rw [if_neg (nI_nlt (by omega) (by omega)), nI_1, show pc = i by omega]
                  rcases c12 with h | h
                  · rw [if_pos h, hgo, if_pos hv2, e, nI_clamp hj2]; rfl
                  · rw [if_neg (by rw [h]; decide), if_pos h, hgo, if_pos hv2, e, nI_clamp hj2]; rfl
                · intro q hq
                  cases hq
                  exact ⟨⟨hv, ht⟩, by simp; omega⟩
              · rw [if_neg hj] at hy; cases hy
            · rw [if_neg hv2] at hy
              cases hy
              refine ⟨M, sp_fr.refl _ _ _, hM', ?_, ?_⟩
              · rcases c12 with h | h
                · rw [if_pos h, hgo, if_neg hv2]; rfl
                · rw [if_neg (by rw [h]; decide), if_pos h, hgo, if_neg hv2]; rfl
              · intro q hq
                cases hq
                exact ⟨ht, by simp; omega⟩
          · rw [if_neg c12] at hy
            rw [if_neg (fun h => c12 (Or.inl h)), if_neg (fun h => c12 (Or.inr h))]
            split at hy
            · cases t with
              | nil => cases hy
              | cons w t2 =>
                obtain ⟨hw, ht2⟩ := ht
                rw [List.length_cons] at hl hv ⊢
                simp only [ev_bi] at hy
                cases hy
                have e1 : nI (t2.length + 1 + 1) - 1 + (-1) = nI t2.length := by rw [ev_top2, nI_pred]
                have e2 : nI (t2.length + 1 + 1) - 1 + (-1) + 1 = nI (t2.length + 1) := by rw [e1, nI_1]
                obtain ⟨z, hz⟩ := ev_joined u (Int32.toInt64 (sp_I M 3 t2.length)) (Int32.toInt64 (sp_I M 3 (t2.length + 1)))
                have hz2 : fX0_joined u w v = some z := by rw [← hw, ← hv]; exact hz
                rw [e2, e1, if_pos (nI_pos' (by omega))]
                simp only [sp_ix_nI (show t2.length < 52 by omega) (by omega), sp_ix_nI (show t2.length + 1 < 52 by omega) (by omega), Option.bind_some, hz]
                unfold fX0_value_j267
                unfold ev_jn
                rw [hz2, Option.bind_some]
                unfold ev_chk
                by_cases z1 : z < (-1000000000)
                · rw [if_pos z1, if_pos z1]
                  exact ⟨M, sp_fr.refl _ _ _, hM', rfl, fun q hq => by cases hq⟩
                · rw [if_neg z1, if_neg z1]
                  by_cases z2 : z ≤ 1000000000
                  · rw [if_pos z2, if_pos z2]
                    refine ⟨sp_setI M 3 t2.length (Int64.toInt32 z), sp_fr_I (Or.inl (by decide)) rfl, ev_CM_set h1 h3 hM', ?_, ?_⟩
                    · simp only [sp_ix_nI (show t2.length < 52 by omega) (by omega), Option.bind_some, sp_do, nI_1, Option.map_some]
                      rw [ev_om_some]; dsimp only; rw [List.length_cons, nI_pred]
                    · intro q hq
                      simp only [Option.map_some, Option.some.injEq] at hq
                      subst hq
                      refine ⟨?_, by simp; omega⟩
                      have := ev_setCS (x := Int64.toInt32 z) ht2
                      rw [ev_back z1 z2] at this
                      exact this
                  · rw [if_neg z2, if_neg z2]
                    exact ⟨M, sp_fr.refl _ _ _, hM', rfl, fun q hq => by cases hq⟩
            · cases hy
theorem ev_cls (h1 : o1 ≠ 1) (h3 : o3 ≠ 3) : ∀ (k n : Nat) (M : sp_Mem) (pc : Nat) (s : List Int64) (y : Option (Nat × List Int64)), ev_it Nw (ev_cc stp len) W k (some (pc, s)) = some y → ev_CM M o1 o3 stp len Nw W → ev_CS (sp_I M 3) s → s.length ≤ 52 → ∃ M', sp_fr [3] [] M M' ∧ fX0_value_l24 F o1 o3 kx (k + n) (nI s.length - 1) (nI len) (nI pc) M = ev_om y (some (-2000000000, M')) (fun q => fX0_value_l24 F o1 o3 kx n (nI q.2.length - 1) (nI len) (nI q.1) M') ∧ (∀ q, y = some q → ev_CS (sp_I M' 3) q.2 ∧ q.2.length ≤ 52 ∧ ev_CM M' o1 o3 stp len Nw W) := by
  intro k
  induction k with
  | zero =>
    intro n M pc s y hy hM hs hl
    cases hy
    refine ⟨M, sp_fr.refl _ _ _, ?_, fun q hq => ?_⟩
    · rw [Nat.zero_add]; rfl
    · cases hq; exact ⟨hs, hl, hM⟩
  | succ k ih =>
    intro n M pc s y hy hM hs hl
    have hy : (ev_st Nw (ev_cc stp len) W (some (pc, s))).bind (ev_it Nw (ev_cc stp len) W k) = some y := hy
    cases hz : ev_st Nw (ev_cc stp len) W (some (pc, s)) with
    | none => rw [hz] at hy; cases hy
    | some z =>
      rw [hz, Option.bind_some] at hy
      obtain ⟨M1, f1, g1, e1, k1⟩ := ev_cls1 (F := F) (kx := kx) h1 h3 (k + n) hz hM hs hl
      rw [show k + 1 + n = k + n + 1 by omega, e1]
      cases z with
      | none =>
        rw [ev_it_none] at hy
        cases hy
        exact ⟨M1, f1, rfl, fun q hq => by cases hq⟩
      | some q =>
        obtain ⟨a1, a2⟩ := k1 q rfl
        obtain ⟨M2, f2, e2, k2⟩ := ih n M1 q.1 q.2 y hy g1 a1 a2
        exact ⟨M2, f1.tr f2, e2, k2⟩
end EvCls
theorem ev_chk_rg {v : Int64} (h : ev_chk v = some v) : -1000000000 ≤ v.toInt ∧ v.toInt ≤ 1000000000 := by
  unfold ev_chk at h
  split at h
  · cases h
  · split at h
    · rename_i h1 h2
      rw [l_lt, show (-1000000000 : Int64).toInt = -1000000000 from rfl] at h1
      rw [l_le, show (1000000000 : Int64).toInt = 1000000000 from rfl] at h2
      omega
    · cases h
theorem ev_chk_of {v : Int64} (h1 : -1000000000 ≤ v.toInt) (h2 : v.toInt ≤ 1000000000) : ev_chk v = some v := by
  unfold ev_chk
  rw [if_neg, if_pos]
  · rw [l_le, show (1000000000 : Int64).toInt = 1000000000 from rfl]; exact h2
  · rw [l_lt, show (-1000000000 : Int64).toInt = -1000000000 from rfl]; omega
/-- the value of a SUM or TEST of the class -/
theorem ev_val {F o1 o3 : Nat} {stp : Nat → Int32} {len Nw p q n : Nat} {W : Nat → Int64} {f : ev_S} {M : sp_Mem} (hF : 1000 ≤ F) (h1 : o1 ≠ 1) (h3 : o3 ≠ 3) (hM : ev_CM M o1 o3 stp len Nw W) (hlen : sp_I M o1 3 = nI len) (hS : ev_Seg Nw (ev_cc stp len) p q f n) (hn : n ≤ 50) (hq : q < len) (h0 : stp q &&& 31 = 0) (hW : ∀ i, i < Nw → ev_chk (W i) = some (W i)) : ∃ x M', fX0_value F M o1 (nI p) o3 = some (x, M') ∧ sp_fr [3] [] M M' ∧ (f W = none → x = -2000000000) ∧ (∀ v, f W = some v → Int32.toInt64 x = v ∧ x ≠ -2000000000) := by
  obtain ⟨a1, a2, a0, a3⟩ := hS
  obtain ⟨k, hk, e⟩ := a3 (ev_cc stp len) (fun _ _ _ => rfl) W [] (by simp; omega)
  have hM' := hM
  obtain ⟨m1, m2, m3, m4, m5, m6⟩ := hM
  obtain ⟨F', rfl⟩ : ∃ F', F = k + (F' + 1) := ⟨F - k - 1, by omega⟩
  obtain ⟨M', f', e', k'⟩ := ev_cls (F := k + (F' + 1)) (kx := fun M41 => some ((-2000000000), M41)) h1 h3 k (F' + 1) M p [] _ e hM' trivial (by simp)
  have hv : fX0_value (k + (F' + 1)) M o1 (nI p) o3 = fX0_value_l24 (k + (F' + 1)) o1 o3 (fun M41 => some ((-2000000000), M41)) (k + (F' + 1)) (nI ([] : List Int64).length - 1) (nI len) (nI p) M := by
    unfold fX0_value
    simp only [sp_do]
    have x1 : sp_min (sp_I M o1 3) (Int32.ofNat (sp_N M (o1 + 2))) = nI len := by
      unfold sp_min
      rw [hlen, show Int32.ofNat (sp_N M (o1 + 2)) = nI (sp_N M (o1 + 2)) from rfl, if_neg (nI_nlt m2 (by omega))]
    have x2 : sp_max 0 (nI p) = nI p := by
      unfold sp_max
      by_cases hp : p = 0
      · subst hp; rw [if_neg (by decide)]; rfl
      · rw [if_pos]; exact nI_lt (a := 0) (by omega) (by omega)
    rw [x1, x2]; rfl
  rw [hv, e']
  cases hf : f W with
  | none =>
    exact ⟨-2000000000, M', rfl, f', fun _ => rfl, fun v hv => by cases hv⟩
  | some v =>
    rw [hf] at k'
    obtain ⟨c1, c2, c3⟩ := k' (q, [v]) rfl
    refine ⟨sp_I M' 3 0, M', ?_, f', fun h => (by cases h), fun v' hv' => ?_⟩
    · show fX0_value_l24 (k + (F' + 1)) o1 o3 (fun M41 => some ((-2000000000), M41)) (F' + 1) (nI 1 - 1) (nI len) (nI q) M' = _
      unfold fX0_value_l24
      have hN : sp_N M' (o1 + 2) = sp_N M (o1 + 2) := f'.2.2.2.2.1 _
      simp only [show ¬ nI len ≤ nI q from nI_ge hq (by omega), if_false, show sp_ix (sp_N M' (o1 + 2)) (nI q) = some q from sp_ix_nI (by omega) (by omega), Option.bind_some, sp_do, c3.1, h0, show ¬ (0 : Int32) = 1 by decide, show ¬ (0 : Int32) = 2 by decide, if_true, fX0_value_j130]
      rw [show nI 1 - 1 = nI 0 from rfl, if_neg (nI_pos (by omega)), if_pos (nI_pos' (by omega)), sp_ix_nI (by omega) (by omega)]
      rfl
    · cases hv'
      have hx : Int32.toInt64 (sp_I M' 3 0) = v := c1.1
      refine ⟨hx, fun hb => ?_⟩
      have := ev_chk_rg (a0 W hW v hf)
      rw [← hx, n_l, hb, show (-2000000000 : Int32).toInt = -2000000000 from rfl] at this
      omega
def ev_rc (ord op arg : Int32) : Int32 × Int32 :=
  if op = 0 then (1, arg)
  else if 20 ≤ op then (if op = 29 ∨ op = 30 then (op - 17, arg) else if op ≤ 28 then (op - 17, 0) else (0, 0))
  else if ord = 0 then (if 0 < op ∧ op ≤ 10 then (2, op - 1) else (0, 0))
  else if op = 5 then (if 0 ≤ arg ∧ arg ≤ 5 then (2, 4 + arg) else (0, 0))
  else if op = 6 then (if 0 ≤ arg ∧ arg ≤ 5 then (2, 10 + arg) else (0, 0))
  else if 0 < op ∧ op ≤ 4 then (2, op - 1) else (0, 0)
def ev_rcf (ord : Int32) (gop garg : Nat → Int32) (lim i : Nat) : Int32 × Int32 := if i < lim then ev_rc ord (gop i) (garg i) else (0, 0)
/-! ===== the clauses of a law: verb, SUM, TEST ===== -/
abbrev ev_C : Type := Nat × Option ev_S × Option ev_S
def ev_CO (nw : Nat) (stp : Nat → Int32) (Ns : Nat) (x : Int32) : Option ev_S → Prop
  | none => x = -1
  | some f => ∃ p q n, x = nI p ∧ q < Ns ∧ n ≤ 50 ∧ ev_Seg nw (ev_cc stp Ns) p q f n ∧ stp q &&& 31 = 0
def ev_RO (ord : Int32) (nw : Nat) (gop garg : Nat → Int32) (lim : Nat) (a b : Int32) : Option ev_S → Prop
  | none => ∃ p : Nat, p ≤ 400 ∧ a = nI p ∧ b = nI p
  | some f => ∃ p q n, a = nI p ∧ b = nI q ∧ q ≤ lim ∧ n ≤ 50 ∧ ev_Seg nw (ev_rcf ord gop garg lim) p q f n
def ev_LC (hd stp : Nat → Int32) (nc len : Int32) (Nh Ns : Nat) (cl : List ev_C) : Prop := cl.length ≤ 12 ∧ nc = nI cl.length ∧ Nh = 5 * cl.length ∧ Ns ≤ 400 ∧ len = nI Ns ∧ ∀ i c, cl[i]? = some c → hd (5 * i) = nI c.1 ∧ ev_CO 10 stp Ns (hd (5 * i + 1)) c.2.1 ∧ ev_CO 10 stp Ns (hd (5 * i + 4)) c.2.2
def ev_LQ (q : Nat → Int32) (cl : List ev_C) : Prop := cl.length ≤ 12 ∧ q 1 = nI cl.length ∧ ∃ lim, lim ≤ 400 ∧ ∀ i c, cl[i]? = some c → c.1 < 4 ∧ (c.2.1 = none ↔ 2 ≤ c.1) ∧ (∀ t, c.2.2 = some t → ev_T t) ∧ q (2 + 8 * i) = nI c.1 ∧ ev_RO 0 10 (fun j => q (98 + 2 * j)) (fun j => q (98 + 2 * j + 1)) lim (q (2 + 8 * i + 3)) (q (2 + 8 * i + 4)) c.2.1 ∧ ev_RO 0 10 (fun j => q (98 + 2 * j)) (fun j => q (98 + 2 * j + 1)) lim (q (2 + 8 * i + 5)) (q (2 + 8 * i + 6)) c.2.2
theorem ev_RO_ext {ord : Int32} {nw : Nat} {g1 g2 h1 h2 : Nat → Int32} {lim : Nat} {a b : Int32} {o : Option ev_S} (hg : ∀ i, i < lim → g2 i = g1 i) (hh : ∀ i, i < lim → h2 i = h1 i) (h : ev_RO ord nw g1 h1 lim a b o) : ev_RO ord nw g2 h2 lim a b o := by
  cases o with
  | none => exact h
  | some f =>
    obtain ⟨p, q, n, e1, e2, e3, e4, e5⟩ := h
    refine ⟨p, q, n, e1, e2, e3, e4, ev_Seg_cg e5 (fun i i1 i2 => ?_)⟩
    unfold ev_rcf
    rw [if_pos (by omega), if_pos (by omega), hg i (by omega), hh i (by omega)]
theorem ev_LQ_ext {q q' : Nat → Int32} {cl : List ev_C} (hq : ∀ i, i < 900 → q' i = q i) (h : ev_LQ q cl) : ev_LQ q' cl := by
  obtain ⟨h12, h1, lim, hl, h2⟩ := h
  refine ⟨h12, by rw [hq 1 (by omega)]; exact h1, lim, hl, fun i c hc => ?_⟩
  have hi : i < cl.length := (List.getElem?_eq_some_iff.mp hc).1
  obtain ⟨a1, a2, a3, a4, a5, a6⟩ := h2 i c hc
  refine ⟨a1, a2, a3, by rw [hq _ (by omega)]; exact a4, ?_, ?_⟩
  · rw [hq _ (by omega), hq _ (by omega)]
    exact ev_RO_ext (fun j hj => hq _ (by omega)) (fun j hj => hq _ (by omega)) a5
  · rw [hq _ (by omega), hq _ (by omega)]
    exact ev_RO_ext (fun j hj => hq _ (by omega)) (fun j hj => hq _ (by omega)) a6
