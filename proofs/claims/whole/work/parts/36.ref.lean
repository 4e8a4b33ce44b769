theorem nI_dec (n : Nat) : nI (n + 1) + (-1) = nI n := by
  rw [← Int32.sub_eq_add_neg]; exact nI_pred n
/-! ===== the reference's reckoner works the plain machine ===== -/
def ev_RS (v : Nat → Int64) : List Int64 → Prop
  | [] => True
  | x :: t => v t.length = x ∧ ev_RS v t
theorem ev_RS_ext {v v' : Nat → Int64} : ∀ {s : List Int64}, (∀ i, i < s.length → v' i = v i) → ev_RS v s → ev_RS v' s
  | [], _, _ => trivial
  | x :: t, h, hs => ⟨by rw [h t.length (by simp)]; exact hs.1, ev_RS_ext (fun i hi => h i (by simp; omega)) hs.2⟩
theorem ev_setRS {M : sp_Mem} {s : List Int64} {x : Int64} (h : ev_RS (sp_L M 123) s) : ev_RS (sp_L (sp_setL M 123 s.length x) 123) (x :: s) := by
  refine ⟨by rw [sp_L_setL, if_pos ⟨rfl, rfl⟩], ev_RS_ext (fun i hi => ?_) h⟩
  rw [sp_L_setL, if_neg (by omega)]
def ev_RW0 (M : sp_Mem) (gop garg : Nat → Int32) (lim : Nat) (W : Nat → Int64) : Prop := sp_I M 103 20 = 0 ∧ (∃ lw, lw ≤ 4580 ∧ sp_I M 103 34 = nI lw ∧ ∀ i, i < lim → sp_I M 105 (lw + 98 + 2 * i) = gop i ∧ sp_I M 105 (lw + 98 + 2 * i + 1) = garg i) ∧ ∀ i, i < 10 → sp_L M 121 (i + 1) = W i
def ev_RW1 (M : sp_Mem) (gop garg : Nat → Int32) (lim : Nat) (W : Nat → Int64) : Prop := sp_I M 103 20 = 1 ∧ (∀ i, i < lim → sp_I M 114 i = gop i ∧ sp_I M 115 i = garg i) ∧ (∀ i, i < 4 → sp_L M 122 (i + 1) = W i) ∧ ∃ ns, ns ≤ 6 ∧ sp_I M 105 0 = nI ns ∧ ∀ k, k < 6 → W (4 + k) = (if k < ns then Int32.toInt64 (sp_I M 105 (15 + k)) else -1) ∧ W (10 + k) = (if k < ns then Int32.toInt64 (sp_I M 105 (9 + k)) else -1)
def ev_RM (ord : Int32) (M : sp_Mem) (gop garg : Nat → Int32) (lim Nw : Nat) (W : Nat → Int64) : Prop := lim ≤ 400 ∧ ((ord = 0 ∧ Nw = 10 ∧ ev_RW0 M gop garg lim W) ∨ (ord = 1 ∧ Nw = 16 ∧ ev_RW1 M gop garg lim W))
theorem ev_isS {M : sp_Mem} {n : Nat} (hn : n < 100) (h : sp_I M 105 0 = nI n) (a : Int32) : fX11_isSpark M a = some (if 0 ≤ a.toInt ∧ a.toInt < n then 1 else 0) := is_s hn h a
section EvRef
variable {F : Nat} {ord : Int32} {kx : Int32 → sp_Mem → Option sp_Mem} {kb : Int32 → Int32 → Int32 → sp_Mem → Option sp_Mem} {gop garg : Nat → Int32} {lim Nw : Nat} {W : Nat → Int64}
theorem ev_RM_fr {M M' : sp_Mem} (h : ev_RM ord M gop garg lim Nw W) (hf : sp_fr [123] [(103, 38), (103, 39)] M M') : ev_RM ord M' gop garg lim Nw W := by
  have hI : ∀ i j, i ≠ 123 → (i = 103 → j ≠ 38 ∧ j ≠ 39) → sp_I M' i j = sp_I M i j := fun i j h1 h2 => hf.1 i j (by simp [h1]) (by simp; omega)
  have hL : ∀ i j, i ≠ 123 → i ≠ 103 → sp_L M' i j = sp_L M i j := fun i j h1 h2 => hf.2.1 i j (by simp [h1]) (by simp; omega)
  obtain ⟨h0, h⟩ := h
  refine ⟨h0, ?_⟩
  rcases h with ⟨a, b, c1, ⟨lw, c2, c3, c4⟩, c5⟩ | ⟨a, b, c1, c2, c3, ns, c4, c5, c6⟩
  · left
    refine ⟨a, b, by rw [hI _ _ (by decide) (by decide)]; exact c1, ⟨lw, c2, by rw [hI _ _ (by decide) (by decide)]; exact c3, fun i hi => ?_⟩, fun i hi => by rw [hL _ _ (by decide) (by decide)]; exact c5 i hi⟩
    rw [hI _ _ (by decide) (by simp), hI _ _ (by decide) (by simp)]
    exact c4 i hi
  · right
    refine ⟨a, b, by rw [hI _ _ (by decide) (by decide)]; exact c1, fun i hi => by rw [hI _ _ (by decide) (by simp), hI _ _ (by decide) (by simp)]; exact c2 i hi, fun i hi => by rw [hL _ _ (by decide) (by decide)]; exact c3 i hi, ns, c4, by rw [hI _ _ (by decide) (by simp)]; exact c5, fun k hk => ?_⟩
    rw [hI _ _ (by decide) (by simp), hI _ _ (by decide) (by simp)]
    exact c6 k hk
theorem ev_r0 {M : sp_Mem} {n pc last : Nat} {a3 : Int32} (hM : ev_RM ord M gop garg lim Nw W) (hb : sp_I M 103 38 = 0) (hp : pc < last) (hl : last ≤ lim) : fX11_reckonAll_l10 F kx (n + 1) (nI last) a3 (nI pc) M = fX11_reckonAll_j95 F (fX11_reckonAll_l10 F kx n) kx (nI last) a3 (nI pc) (gop pc) (garg pc) M := by
  obtain ⟨h0, h⟩ := hM
  have hle : ¬ nI last ≤ nI pc := nI_ge hp (by omega)
  rw [fX11_reckonAll_l10, if_neg hle, if_pos hb]
  unfold fX11_reckonAll_j57
  rcases h with ⟨a, b, c1, ⟨lw, c2, c3, c4⟩, c5⟩ | ⟨a, b, c1, c2, c3, ns, c4, c5, c6⟩
  · have e1 : sp_I M 103 34 + 98 + 2 * nI pc = nI (lw + 98 + 2 * pc) := by
      rw [c3, show (98 : Int32) = nI 98 from rfl, show (2 : Int32) * nI pc = nI (2 * pc) from by rw [Nat.two_mul, ← nI_add, Int32.two_mul], nI_add, nI_add]
    have e2 : sp_I M 103 34 + 98 + 2 * nI pc + 1 = nI (lw + 98 + 2 * pc + 1) := by rw [e1, nI_1]
    rw [if_pos c1, e1, sp_ix_nI (by omega) (by omega), Option.bind_some, if_pos c1, nI_1, sp_ix_nI (by omega) (by omega), Option.bind_some, (c4 pc (by omega)).1, (c4 pc (by omega)).2]
  · have hn : ¬ sp_I M 103 20 = 0 := by rw [c1]; decide
    rw [if_neg hn, sp_ix_nI (by omega) (by omega), Option.bind_some, if_neg hn, Option.bind_some, (c2 pc (by omega)).1, (c2 pc (by omega)).2]
/-- one step of the reckoner, its stack and flag -/
def ev_RQ (F : Nat) (kb : Int32 → Int32 → Int32 → sp_Mem → Option sp_Mem) (last : Nat) (M : sp_Mem) (X : Option sp_Mem) (y : Option (Nat × List Int64)) : Prop := ∃ M', sp_fr [123] [(103, 38), (103, 39)] M M' ∧ match y with
  | none => ∃ a3 a4, X = kb (nI last) a3 a4 M' ∧ sp_I M' 103 38 = 1
  | some q => X = kb (nI last) (nI q.2.length) (nI q.1) M' ∧ sp_I M' 103 38 = 0 ∧ ev_RS (sp_L M' 123) q.2 ∧ q.2.length ≤ 52
theorem ev_rpush {M : sp_Mem} {pc last : Nat} {s : List Int64} {v : Int64} {X : Option sp_Mem} (hb : sp_I M 103 38 = 0) (hs : ev_RS (sp_L M 123) s) (hl : s.length < 52) (hX : X = (sp_ix 400 (nI s.length)).bind fun j => sp_do (sp_setL M 123 j v) fun M49 => kb (nI last) (nI s.length + 1) (nI pc + 1) M49) : ev_RQ F kb last M X (some (pc + 1, v :: s)) := by
  refine ⟨sp_setL M 123 s.length v, sp_fr_L (Or.inl (by decide)) rfl, ?_, hb, ev_setRS hs, by simp; omega⟩
  rw [hX, sp_ix_nI (by omega) (by omega), Option.bind_some, nI_1, nI_1]
  rfl
theorem ev_rop {op arg : Int32} (hr : ev_bin (ev_rc ord op arg).1) : 20 ≤ op ∧ ¬ 28 ≤ op ∧ ∀ (M : sp_Mem) (a b : Int64), sp_I M 103 38 = 0 → ∃ z M1, fX11_reckon M op a b = some (z, M1) ∧ (M1 = M ∨ ∃ x, M1 = sp_setI M 103 38 x ∧ (x = 0 ∨ x = 1)) ∧ (match ev_jn (ev_rc ord op arg).1 a b with | none => sp_I M1 103 38 = 1 ∨ (sp_I M1 103 38 = 0 ∧ fX11_in z (-1000000000) 1000000000 = 0) | some v => z = v ∧ sp_I M1 103 38 = 0 ∧ ¬ fX11_in z (-1000000000) 1000000000 = 0) := by
  have hchk : ∀ z : Int64, (match ev_chk z with | none => fX11_in z (-1000000000) 1000000000 = 0 | some v => z = v ∧ ¬ fX11_in z (-1000000000) 1000000000 = 0) := by
    intro z
    unfold ev_chk fX11_in
    by_cases z1 : z < (-1000000000)
    · simp [z1]
    · by_cases z2 : z ≤ 1000000000
      · have z3 : ¬ 1000000000 < z := by rw [l_lt]; rw [l_le] at z2; omega
        simp [z1, z2, z3]
      · have z3 : 1000000000 < z := by rw [l_lt]; rw [l_le] at z2; omega
        simp [z1, z2, z3]
  have h27 : op = 20 ∨ op = 21 ∨ op = 22 ∨ op = 23 ∨ op = 24 ∨ op = 25 ∨ op = 26 ∨ op = 27 := by
    unfold ev_bin ev_rc at hr
    have hop := n_range op
    split at hr
    · simp at hr
    · split at hr
      · split at hr
        · rename_i h1 h2 h3
          rcases h3 with rfl | rfl <;> simp at hr
        · split at hr
          · rename_i h1 h2 h3 h4
            rw [n_le, show (20 : Int32).toInt = 20 from rfl] at h2
            rw [n_le, show (28 : Int32).toInt = 28 from rfl] at h4
            have hx : op.toInt = 28 ∨ op.toInt = 20 ∨ op.toInt = 21 ∨ op.toInt = 22 ∨ op.toInt = 23 ∨ op.toInt = 24 ∨ op.toInt = 25 ∨ op.toInt = 26 ∨ op.toInt = 27 := by omega
            rcases hx with h | h
            · rw [show op = 28 from by rw [n_eq, h]; rfl] at hr
              simp at hr
            · simp only [n_eq]; exact h
          · simp at hr
      · exfalso
        repeat' split at hr
        all_goals simp at hr
  refine ⟨by rcases h27 with rfl | rfl | rfl | rfl | rfl | rfl | rfl | rfl <;> decide, by rcases h27 with rfl | rfl | rfl | rfl | rfl | rfl | rfl | rfl <;> decide, ?_⟩
  intro M a b hb
  have c0 : ev_chk 0 = some 0 := by decide
  have c1 : ev_chk 1 = some 1 := by decide
  have i0 : ¬ fX11_in 0 (-1000000000) 1000000000 = 0 := by decide
  have i1 : ¬ fX11_in 1 (-1000000000) 1000000000 = 0 := by decide
  rcases h27 with rfl | rfl | rfl | rfl | rfl | rfl | rfl | rfl
  · refine ⟨a + b, M, by simp [fX11_reckon], Or.inl rfl, ?_⟩
    have e : ev_jn (ev_rc ord 20 arg).1 a b = ev_chk (a + b) := by simp [ev_rc, ev_jn, fX0_joined]
    rw [e]
    have := hchk (a + b)
    cases hc : ev_chk (a + b) with
    | none => rw [hc] at this; exact Or.inr ⟨hb, this⟩
    | some v => rw [hc] at this; exact ⟨this.1, hb, this.2⟩
  · refine ⟨a - b, M, by simp [fX11_reckon], Or.inl rfl, ?_⟩
    have e : ev_jn (ev_rc ord 21 arg).1 a b = ev_chk (a - b) := by simp [ev_rc, ev_jn, fX0_joined]
    rw [e]
    have := hchk (a - b)
    cases hc : ev_chk (a - b) with
    | none => rw [hc] at this; exact Or.inr ⟨hb, this⟩
    | some v => rw [hc] at this; exact ⟨this.1, hb, this.2⟩
  · refine ⟨a * b, M, by simp [fX11_reckon], Or.inl rfl, ?_⟩
    have e : ev_jn (ev_rc ord 22 arg).1 a b = ev_chk (a * b) := by simp [ev_rc, ev_jn, fX0_joined]
    rw [e]
    have := hchk (a * b)
    cases hc : ev_chk (a * b) with
    | none => rw [hc] at this; exact Or.inr ⟨hb, this⟩
    | some v => rw [hc] at this; exact ⟨this.1, hb, this.2⟩
  · by_cases hz : b = 0
    · refine ⟨0, sp_setI M 103 38 1, by simp [fX11_reckon, fX11_reckon_j72, hz, sp_do, sp_b01, sp_I_setI], Or.inr ⟨1, rfl, Or.inr rfl⟩, ?_⟩
      have e : ev_jn (ev_rc ord 23 arg).1 a b = none := by simp [ev_rc, ev_jn, fX0_joined, hz]; decide
      rw [e]
      exact Or.inl (by simp [sp_I_setI])
    · refine ⟨a / b, sp_setI M 103 38 0, by simp [fX11_reckon, fX11_reckon_j72, hz, sp_do, sp_b01, sp_I_setI], Or.inr ⟨0, rfl, Or.inl rfl⟩, ?_⟩
      have e : ev_jn (ev_rc ord 23 arg).1 a b = ev_chk (a / b) := by simp [ev_rc, ev_jn, fX0_joined, hz]
      rw [e]
      have := hchk (a / b)
      cases hc : ev_chk (a / b) with
      | none => rw [hc] at this; exact Or.inr ⟨by simp [sp_I_setI], this⟩
      | some v => rw [hc] at this; exact ⟨this.1, by simp [sp_I_setI], this.2⟩
  · by_cases hz : b = 0
    · refine ⟨0, sp_setI M 103 38 1, by simp [fX11_reckon, fX11_reckon_j104, hz, sp_do, sp_b01, sp_I_setI], Or.inr ⟨1, rfl, Or.inr rfl⟩, ?_⟩
      have e : ev_jn (ev_rc ord 24 arg).1 a b = none := by simp [ev_rc, ev_jn, fX0_joined, hz]; decide
      rw [e]
      exact Or.inl (by simp [sp_I_setI])
    · refine ⟨a - a / b * b, sp_setI M 103 38 0, by simp [fX11_reckon, fX11_reckon_j104, hz, sp_do, sp_b01, sp_I_setI], Or.inr ⟨0, rfl, Or.inl rfl⟩, ?_⟩
      have e : ev_jn (ev_rc ord 24 arg).1 a b = ev_chk (a - a / b * b) := by simp [ev_rc, ev_jn, fX0_joined, hz]
      rw [e]
      have := hchk (a - a / b * b)
      cases hc : ev_chk (a - a / b * b) with
      | none => rw [hc] at this; exact Or.inr ⟨by simp [sp_I_setI], this⟩
      | some v => rw [hc] at this; exact ⟨this.1, by simp [sp_I_setI], this.2⟩
  · refine ⟨if b ≤ a then 0 else 1, M, by simp [fX11_reckon]; split <;> rfl, Or.inl rfl, ?_⟩
    have e : ev_jn (ev_rc ord 25 arg).1 a b = some (if b ≤ a then 0 else 1) := by
      simp [ev_rc, ev_jn, fX0_joined]; split <;> simp [c0, c1]
    rw [e]
    refine ⟨rfl, hb, ?_⟩
    split
    · exact i0
    · exact i1
  · refine ⟨if a ≤ b then 0 else 1, M, by simp [fX11_reckon]; split <;> rfl, Or.inl rfl, ?_⟩
    have e : ev_jn (ev_rc ord 26 arg).1 a b = some (if a ≤ b then 0 else 1) := by
      simp [ev_rc, ev_jn, fX0_joined]; split <;> simp [c0, c1]
    rw [e]
    refine ⟨rfl, hb, ?_⟩
    split
    · exact i0
    · exact i1
  · refine ⟨if a = b then 1 else 0, M, by simp [fX11_reckon]; split <;> rfl, Or.inl rfl, ?_⟩
    have e : ev_jn (ev_rc ord 27 arg).1 a b = some (if a = b then 1 else 0) := by
      simp [ev_rc, ev_jn, fX0_joined]; split <;> simp [c0, c1]
    rw [e]
    refine ⟨rfl, hb, ?_⟩
    split
    · exact i1
    · exact i0
end EvRef
section EvRef2
variable {F : Nat} {ord : Int32} {kx : Int32 → sp_Mem → Option sp_Mem} {kb : Int32 → Int32 → Int32 → sp_Mem → Option sp_Mem} {gop garg : Nat → Int32} {lim Nw : Nat} {W : Nat → Int64}
theorem ev_pos_nI {a : Int32} {pc : Nat} (hp : pc < 2 ^ 31) (h : nI pc < a) : a = nI a.toNatClampNeg := by
  obtain ⟨j, hj, rfl⟩ := nI_of (x := a) (by rw [n_lt] at h ⊢; rw [nI_toInt hp] at h; show ¬ a.toInt < 0; omega)
  rw [nI_clamp hj]
theorem ev_ref1 {M : sp_Mem} {pc last : Nat} {s : List Int64} {y : Option (Nat × List Int64)} (hy : ev_st Nw (ev_rcf ord gop garg lim) W (some (pc, s)) = some y) (hM : ev_RM ord M gop garg lim Nw W) (hb : sp_I M 103 38 = 0) (hp : pc < lim) (hs : ev_RS (sp_L M 123) s) (hl : s.length ≤ 52) : ev_RQ F kb last M (fX11_reckonAll_j95 F kb kx (nI last) (nI s.length) (nI pc) (gop pc) (garg pc) M) y := by
  have hc : ev_rcf ord gop garg lim pc = ev_rc ord (gop pc) (garg pc) := if_pos hp
  replace hy : ev_s1 Nw (ev_rcf ord gop garg lim pc) W pc s = some y := hy
  rw [hc] at hy
  obtain ⟨h400, hM⟩ := hM
  generalize gop pc = op at *
  generalize garg pc = arg at *
  by_cases c0 : op = 0
  · subst c0
    have e : ev_rc ord 0 arg = (1, arg) := if_pos rfl
    rw [e] at hy
    simp only [ev_s1, if_true, ev_pu] at hy
    by_cases hl : s.length < 52
    · rw [if_pos hl] at hy; cases hy
      refine ev_rpush hb hs hl ?_
      unfold fX11_reckonAll_j95; rw [if_neg (by decide), if_pos rfl]
    · rw [if_neg hl] at hy; cases hy
  · by_cases c20 : 20 ≤ op
    · by_cases c29 : op = 29 ∨ op = 30
      · have e : ev_rc ord op arg = (op - 17, arg) := by unfold ev_rc; rw [if_neg c0, if_pos c20, if_pos c29]
        rw [e] at hy
        have e1 : ev_s1 Nw (op - 17, arg) W pc s = ev_ao (op - 17, arg) pc s := by
          rcases c29 with rfl | rfl <;> simp [ev_s1]
        rw [e1] at hy
        cases s with
        | nil => cases hy
        | cons v t =>
          obtain ⟨hv, ht⟩ := hs
          rw [List.length_cons] at hl ⊢
          simp only [ev_ao] at hy
          have hgo : fX11_reckonAll_j95 F kb kx (nI last) (nI (t.length + 1)) (nI pc) op arg M = if v = (if op - 17 = 13 then 1 else 0) then kb (nI last) (nI (t.length + 1)) arg M else kb (nI last) (nI t.length) (nI (pc + 1)) M := by
            unfold fX11_reckonAll_j95
            have i1 : sp_ix 400 (nI (t.length + 1) - 1) = some t.length := by rw [nI_pred]; exact sp_ix_nI (by omega) (by omega)
            have i2 : nI (t.length + 1) + (-1) = nI t.length := nI_dec _
            rcases c29 with rfl | rfl
            · simp [i1, i2, hv, nI_1]
            · simp [i1, i2, hv, nI_1]
          rw [hgo]
          by_cases hv2 : v = (if op - 17 = 13 then 1 else 0)
          · rw [if_pos hv2] at hy
            by_cases hj : nI pc < arg
            · rw [if_pos hj] at hy
              cases hy
              refine ⟨M, sp_fr.refl _ _ _, ?_, hb, ⟨hv, ht⟩, by simp; omega⟩
              rw [if_pos hv2, ← ev_pos_nI (by omega) hj]; rfl
            · rw [if_neg hj] at hy; cases hy
          · rw [if_neg hv2] at hy
            cases hy
            refine ⟨M, sp_fr.refl _ _ _, ?_, hb, ht, by simp; omega⟩
            rw [if_neg hv2]
      · by_cases c28 : op ≤ 28
        · have e : ev_rc ord op arg = (op - 17, 0) := by unfold ev_rc; rw [if_neg c0, if_pos c20, if_neg c29, if_pos c28]
          by_cases d28 : op = 28
          · subst d28
            rw [e] at hy
            have e1 : ev_s1 Nw ((28 : Int32) - 17, 0) W pc s = ev_nt pc s := by simp [ev_s1]
            rw [e1] at hy
            cases s with
            | nil => cases hy
            | cons v t =>
              obtain ⟨hv, ht⟩ := hs
              rw [List.length_cons] at hl ⊢
              simp only [ev_nt] at hy
              by_cases hv2 : v = 0 ∨ v = 1
              · rw [if_pos hv2] at hy
                cases hy
                have i1 : sp_ix 400 (nI (t.length + 1) - 1) = some t.length := by rw [nI_pred]; exact sp_ix_nI (by omega) (by omega)
                refine ⟨sp_setL M 123 t.length (1 - v), sp_fr_L (Or.inl (by decide)) rfl, ?_, hb, ev_setRS ht, by simp; omega⟩
                unfold fX11_reckonAll_j95
                simp [i1, hv, nI_1, sp_do]
              · rw [if_neg hv2] at hy; cases hy
          · have h27 : op = 20 ∨ op = 21 ∨ op = 22 ∨ op = 23 ∨ op = 24 ∨ op = 25 ∨ op = 26 ∨ op = 27 := by
              rw [n_le, show (20 : Int32).toInt = 20 from rfl] at c20
              rw [n_le, show (28 : Int32).toInt = 28 from rfl] at c28
              rw [n_eq, show (28 : Int32).toInt = 28 from rfl] at d28
              simp only [n_eq, show (20 : Int32).toInt = 20 from rfl, show (21 : Int32).toInt = 21 from rfl, show (22 : Int32).toInt = 22 from rfl, show (23 : Int32).toInt = 23 from rfl, show (24 : Int32).toInt = 24 from rfl, show (25 : Int32).toInt = 25 from rfl, show (26 : Int32).toInt = 26 from rfl, show (27 : Int32).toInt = 27 from rfl]
              omega
            have hbin : ev_bin (ev_rc ord op arg).1 := by
              rw [e]
              unfold ev_bin
              rcases h27 with rfl | rfl | rfl | rfl | rfl | rfl | rfl | rfl <;> decide
            have e1 : ev_s1 Nw (ev_rc ord op arg) W pc s = ev_bi (ev_rc ord op arg) pc s := by
              rw [e]
              rcases h27 with rfl | rfl | rfl | rfl | rfl | rfl | rfl | rfl <;> simp [ev_s1]
            rw [e1] at hy
            obtain ⟨r1, r2, r3⟩ := ev_rop hbin
            cases s with
            | nil => cases hy
            | cons v t =>
              cases t with
              | nil => cases hy
              | cons w t2 =>
                obtain ⟨hv, hw, ht⟩ := hs
                rw [List.length_cons] at hv
                rw [List.length_cons, List.length_cons] at hl ⊢
                simp only [ev_bi] at hy
                cases hy
                obtain ⟨z, M1, g1, g2, g3⟩ := r3 M w v hb
                have j1 : sp_ix 400 (nI (t2.length + 1 + 1) + (-1) - 1) = some t2.length := by
                  rw [show nI (t2.length + 1 + 1) + (-1) = nI (t2.length + 1) from nI_dec _, nI_pred]; exact sp_ix_nI (by omega) (by omega)
                have j2 : nI (t2.length + 1 + 1) + (-1) = nI (t2.length + 1) := nI_dec _
                have j3 : sp_ix 400 (nI (t2.length + 1)) = some (t2.length + 1) := sp_ix_nI (by omega) (by omega)
                rw [j2] at j1
                have hL : ∀ j, sp_L M1 123 j = sp_L M 123 j := by
                  rcases g2 with h | ⟨x, h, _⟩ <;> intro j <;> rw [h] <;> rfl
                have hfr : sp_fr [123] [(103, 38), (103, 39)] M M1 := by
                  rcases g2 with h | ⟨x, h, _⟩
                  · rw [h]; exact sp_fr.refl _ _ _
                  · rw [h]; exact sp_fr_I (Or.inr (by decide)) rfl
                have hgo : fX11_reckonAll_j95 F kb kx (nI last) (nI (t2.length + 1 + 1)) (nI pc) op arg M = (if sp_I M1 103 38 = 0 then kb (nI last) (nI (t2.length + 1)) (nI (pc + 1)) (sp_setI (sp_setL M1 123 t2.length z) 103 38 (if fX11_in z (-1000000000) 1000000000 = 0 then 1 else 0)) else kb (nI last) (nI (t2.length + 1)) (nI (pc + 1)) (sp_setI (sp_setL M1 123 t2.length z) 103 38 1)) := by
                  unfold fX11_reckonAll_j95
                  rw [if_pos r1, if_neg r2, j2]
                  simp only [j1, j3, Option.bind_some, hw, hv, g1, sp_do, sp_I_setL, sp_L_setL, nI_1, and_self, if_true]
                rw [hgo]
                cases hj : ev_jn (ev_rc ord op arg).1 w v with
                | none =>
                  rw [hj] at g3
                  rcases g3 with g3 | ⟨g3, g4⟩
                  · refine ⟨sp_setI (sp_setL M1 123 t2.length z) 103 38 1, (hfr.tr (sp_fr_L (Or.inl (by decide)) rfl)).tr (sp_fr_I (Or.inr (by decide)) rfl), nI (t2.length + 1), nI (pc + 1), ?_, by simp [sp_I_setI]⟩
                    rw [if_neg (by rw [g3]; decide)]
                  · refine ⟨sp_setI (sp_setL M1 123 t2.length z) 103 38 1, (hfr.tr (sp_fr_L (Or.inl (by decide)) rfl)).tr (sp_fr_I (Or.inr (by decide)) rfl), nI (t2.length + 1), nI (pc + 1), ?_, by simp [sp_I_setI]⟩
                    rw [if_pos g3, if_pos g4]
                | some x =>
                  rw [hj] at g3
                  obtain ⟨rfl, g4, g5⟩ := g3
                  refine ⟨sp_setI (sp_setL M1 123 t2.length z) 103 38 0, (hfr.tr (sp_fr_L (Or.inl (by decide)) rfl)).tr (sp_fr_I (Or.inr (by decide)) rfl), ?_, by simp [sp_I_setI], ?_, by simp; omega⟩
                  · rw [if_pos g4, if_neg g5]; rfl
                  · refine ⟨by simp [sp_L_setI, sp_L_setL], ev_RS_ext (fun i hi => ?_) ht⟩
                    rw [sp_L_setI, sp_L_setL, if_neg (by omega), hL]
        · exfalso
          have e : ev_rc ord op arg = (0, 0) := by unfold ev_rc; rw [if_neg c0, if_pos c20, if_neg c29, if_neg c28]
          rw [e] at hy
          simp [ev_s1] at hy
    · -- a word
      have hword : ∀ j : Nat, ev_rc ord op arg = (2, nI j) → j < 20 → s.length < 52 ∧ j < Nw ∧ y = some (pc + 1, W j :: s) := by
        intro j e hj
        rw [e] at hy
        simp only [ev_s1, show ¬ (2 : Int32) = 1 by decide, if_false, if_true, nI_clamp (show j < 2 ^ 31 by omega)] at hy
        split at hy
        · rename_i h1
          unfold ev_pu at hy
          split at hy
          · rename_i h2
            cases hy
            exact ⟨h2, h1.2, rfl⟩
          · cases hy
        · cases hy
      rcases hM with ⟨ho, hN, hW⟩ | ⟨ho, hN, hW⟩
      · subst ho
        by_cases hop : 0 < op ∧ op ≤ 10
        · obtain ⟨j, hj, rfl⟩ : ∃ j : Nat, j < 10 ∧ op = nI (j + 1) := by
            obtain ⟨h1, h2⟩ := hop
            rw [n_lt, show (0 : Int32).toInt = 0 from rfl] at h1
            rw [n_le, show (10 : Int32).toInt = 10 from rfl] at h2
            obtain ⟨i, hi, rfl⟩ := n_of (n := 11) (show 0 ≤ op.toInt by omega) (by omega)
            rw [nI_toInt (by omega)] at h1
            exact ⟨i - 1, by omega, by rw [show i - 1 + 1 = i by omega]⟩
          have e : ev_rc 0 (nI (j + 1)) arg = (2, nI j) := by
            unfold ev_rc; rw [if_neg c0, if_neg c20, if_pos rfl, if_pos hop, nI_pred]
          obtain ⟨h1, h2, rfl⟩ := hword j e (by omega)
          refine ev_rpush hb hs h1 ?_
          unfold fX11_reckonAll_j95
          rw [if_neg c20, if_neg c0, if_pos hW.1, sp_ix_nI (by omega) (by omega), Option.bind_some, hW.2.2 j hj]
        · exfalso
          have e : ev_rc 0 op arg = (0, 0) := by unfold ev_rc; rw [if_neg c0, if_neg c20, if_pos rfl, if_neg hop]
          rw [e] at hy
          simp [ev_s1] at hy
      · subst ho
        obtain ⟨w1, w2, w3, ns, w4, w5, w6⟩ := hW
        have hord : ¬ sp_I M 103 20 = 0 := by rw [w1]; decide
        have hspk : ∀ k : Nat, k < 6 → fX11_isSpark M (nI k) = some (if k < ns then 1 else 0) := by
          intro k hk
          rw [ev_isS (show ns < 100 by omega) w5, nI_toInt (show k < 2 ^ 31 by omega)]
          by_cases hkn : k < ns
          · rw [if_pos hkn, if_pos (by omega)]
          · rw [if_neg hkn, if_neg (by omega)]
        by_cases c5 : op = 5 ∨ op = 6
        · by_cases harg : 0 ≤ arg ∧ arg ≤ 5
          · obtain ⟨k, hk, rfl⟩ : ∃ k : Nat, k < 6 ∧ arg = nI k := by
              obtain ⟨h1, h2⟩ := harg
              rw [n_le, show (0 : Int32).toInt = 0 from rfl] at h1
              rw [n_le, show (5 : Int32).toInt = 5 from rfl] at h2
              exact n_of (n := 6) h1 (by omega)
            have hadd : ∀ a : Nat, (4 : Int32) + nI k = nI (4 + k) ∧ (10 : Int32) + nI k = nI (10 + k) := fun _ => ⟨nI_add 4 k, nI_add 10 k⟩
            rcases c5 with rfl | rfl
            · have e : ev_rc 1 5 (nI k) = (2, nI (4 + k)) := by
                unfold ev_rc; rw [if_neg c0, if_neg c20, if_neg (by decide), if_pos rfl, if_pos harg, (hadd 0).1]
              obtain ⟨h1, h2, rfl⟩ := hword _ e (by omega)
              refine ev_rpush hb hs h1 ?_
              unfold fX11_reckonAll_j95
              rw [if_neg c20, if_neg c0, if_neg hord, if_pos (by decide), hspk k hk, Option.bind_some, (w6 k hk).1]
              by_cases hkn : k < ns
              · simp only [if_pos hkn, show ¬ (1 : Int32) = 0 by decide, if_false, if_true]
                rw [show (15 : Int32) + nI k = nI (15 + k) from nI_add 15 k, sp_ix_nI (by omega) (by omega), Option.bind_some]
              · simp only [if_neg hkn, if_true]
            · have e : ev_rc 1 6 (nI k) = (2, nI (10 + k)) := by
                unfold ev_rc; rw [if_neg c0, if_neg c20, if_neg (by decide), if_neg (by decide), if_pos rfl, if_pos harg, (hadd 0).2]
              obtain ⟨h1, h2, rfl⟩ := hword _ e (by omega)
              refine ev_rpush hb hs h1 ?_
              unfold fX11_reckonAll_j95
              rw [if_neg c20, if_neg c0, if_neg hord, if_pos (by decide), hspk k hk, Option.bind_some, (w6 k hk).2]
              by_cases hkn : k < ns
              · simp only [if_pos hkn, show ¬ (1 : Int32) = 0 by decide, if_false, show ¬ (6 : Int32) = 5 by decide]
                rw [show (9 : Int32) + nI k = nI (9 + k) from nI_add 9 k, sp_ix_nI (by omega) (by omega), Option.bind_some]
              · simp only [if_neg hkn, if_true]
          · exfalso
            have e : ev_rc 1 op arg = (0, 0) := by
              unfold ev_rc; rw [if_neg c0, if_neg c20, if_neg (by decide)]
              rcases c5 with rfl | rfl
              · rw [if_pos rfl, if_neg harg]
              · rw [if_neg (by decide), if_pos rfl, if_neg harg]
            rw [e] at hy
            simp [ev_s1] at hy
        · by_cases hop : 0 < op ∧ op ≤ 4
          · obtain ⟨j, hj, rfl⟩ : ∃ j : Nat, j < 4 ∧ op = nI (j + 1) := by
              obtain ⟨h1, h2⟩ := hop
              rw [n_lt, show (0 : Int32).toInt = 0 from rfl] at h1
              rw [n_le, show (4 : Int32).toInt = 4 from rfl] at h2
              obtain ⟨i, hi, rfl⟩ := n_of (n := 5) (show 0 ≤ op.toInt by omega) (by omega)
              rw [nI_toInt (by omega)] at h1
              exact ⟨i - 1, by omega, by rw [show i - 1 + 1 = i by omega]⟩
            have e : ev_rc 1 (nI (j + 1)) arg = (2, nI j) := by
              unfold ev_rc; rw [if_neg c0, if_neg c20, if_neg (by decide), if_neg (fun h => c5 (Or.inl h)), if_neg (fun h => c5 (Or.inr h)), if_pos hop, nI_pred]
            obtain ⟨h1, h2, rfl⟩ := hword j e (by omega)
            refine ev_rpush hb hs h1 ?_
            unfold fX11_reckonAll_j95
            rw [if_neg c20, if_neg c0, if_neg hord, if_neg (show ¬ (5 : Int32) ≤ nI (j + 1) from nI_ge (b := 5) (by omega) (by omega)), sp_ix_nI (by omega) (by omega), Option.bind_some, w3 j hj]
          · exfalso
            have e : ev_rc 1 op arg = (0, 0) := by
              unfold ev_rc; rw [if_neg c0, if_neg c20, if_neg (by decide), if_neg (fun h => c5 (Or.inl h)), if_neg (fun h => c5 (Or.inr h)), if_neg hop]
            rw [e] at hy
            simp [ev_s1] at hy
theorem ev_refk : ∀ (k n : Nat) (M : sp_Mem) (pc last : Nat) (s : List Int64) (y : Option (Nat × List Int64)), ev_it Nw (ev_rcf ord gop garg last) W k (some (pc, s)) = some y → last ≤ lim → ev_RM ord M gop garg lim Nw W → sp_I M 103 38 = 0 → ev_RS (sp_L M 123) s → s.length ≤ 52 → ∃ M', sp_fr [123] [(103, 38), (103, 39)] M M' ∧ match y with
  | none => ∃ a3, fX11_reckonAll_l10 F kx (k + (n + 1)) (nI last) (nI s.length) (nI pc) M = kx a3 M' ∧ sp_I M' 103 38 = 1
  | some q => fX11_reckonAll_l10 F kx (k + (n + 1)) (nI last) (nI s.length) (nI pc) M = fX11_reckonAll_l10 F kx (n + 1) (nI last) (nI q.2.length) (nI q.1) M' ∧ sp_I M' 103 38 = 0 ∧ ev_RS (sp_L M' 123) q.2 ∧ q.2.length ≤ 52 := by
  intro k
  induction k with
  | zero =>
    intro n M pc last s y hy hl hM hb hs hl2
    cases hy
    refine ⟨M, sp_fr.refl _ _ _, ?_, hb, hs, hl2⟩
    rw [Nat.zero_add]
  | succ k ih =>
    intro n M pc last s y hy hl hM hb hs hl2
    replace hy : (ev_st Nw (ev_rcf ord gop garg last) W (some (pc, s))).bind (ev_it Nw (ev_rcf ord gop garg last) W k) = some y := hy
    cases hz : ev_st Nw (ev_rcf ord gop garg last) W (some (pc, s)) with
    | none => rw [hz] at hy; cases hy
    | some z =>
      rw [hz, Option.bind_some] at hy
      have hp : pc < last := by
        apply Decidable.byContradiction
        intro hp
        simp [ev_st, ev_s1, ev_rcf, hp] at hz
      have hM2 : ev_RM ord M gop garg last Nw W := by
        obtain ⟨m1, m2⟩ := hM
        refine ⟨by omega, ?_⟩
        rcases m2 with ⟨a, b, c, ⟨lw, d1, d2, d3⟩, e⟩ | ⟨a, b, c, d, e⟩
        · exact Or.inl ⟨a, b, c, ⟨lw, d1, d2, fun i hi => d3 i (by omega)⟩, e⟩
        · exact Or.inr ⟨a, b, c, fun i hi => d i (by omega), e⟩
      have h1 := ev_ref1 (F := F) (kx := kx) (kb := fX11_reckonAll_l10 F kx (k + (n + 1))) (last := last) hz hM2 hb hp hs hl2
      rw [show k + 1 + (n + 1) = k + (n + 1) + 1 by omega, ev_r0 hM hb hp hl]
      obtain ⟨M1, f1, h1⟩ := h1
      cases z with
      | none =>
        rw [ev_it_none] at hy
        cases hy
        obtain ⟨a3, a4, e1, e2⟩ := h1
        refine ⟨M1, f1, a3, ?_, e2⟩
        rw [e1, show k + (n + 1) = k + n + 1 by omega]
        rw [fX11_reckonAll_l10, if_neg (show ¬ sp_I M1 103 38 = 0 by rw [e2]; decide)]
        split <;> rfl
      | some q =>
        obtain ⟨e1, e2, e3, e4⟩ := h1
        obtain ⟨M2, f2, h2⟩ := ih n M1 q.1 last q.2 y hy hl (ev_RM_fr hM f1) e2 e3 e4
        refine ⟨M2, f1.tr f2, ?_⟩
        cases y with
        | none =>
          obtain ⟨a3, g1, g2⟩ := h2
          exact ⟨a3, e1.trans g1, g2⟩
        | some q2 => exact ⟨e1.trans h2.1, h2.2⟩
/-- the reckoner's value of a SUM or TEST -/
theorem ev_ref {M : sp_Mem} {p q n : Nat} {f : ev_S} (hF : 1000 ≤ F) (hM : ev_RM ord M gop garg lim Nw W) (hq : q ≤ lim) (hS : ev_Seg Nw (ev_rcf ord gop garg lim) p q f n) (hn : n ≤ 50) : ∃ M', fX11_reckonAll F M (nI p) (nI q) = some M' ∧ sp_fr [123] [(103, 38), (103, 39)] M M' ∧ (f W = none → sp_I M' 103 38 = 1) ∧ (∀ v, f W = some v → sp_I M' 103 38 = 0 ∧ sp_L M' 103 39 = v) := by
  obtain ⟨a1, a2, a0, a3⟩ := hS
  have h400 := hM.1
  obtain ⟨k, hk, e⟩ := a3 (ev_rcf ord gop garg q) (fun i h1 h2 => by unfold ev_rcf; rw [if_pos h2, if_pos (by omega)]) W [] (by simp; omega)
  obtain ⟨F', rfl⟩ : ∃ F', F = k + (F' + 1) := ⟨F - k - 1, by omega⟩
  have fr0 : sp_fr [123] [(103, 38), (103, 39)] M (sp_setI M 103 38 0) := sp_fr_I (Or.inr (by decide)) rfl
  obtain ⟨M', f', h'⟩ := ev_refk (F := k + (F' + 1)) (kx := fun b53 M52 => fX11_reckonAll_j351 (k + (F' + 1)) b53 M52) k F' (sp_setI M 103 38 0) p q [] _ e hq (ev_RM_fr hM fr0) (by simp [sp_I_setI]) trivial (by simp)
  have hv : fX11_reckonAll (k + (F' + 1)) M (nI p) (nI q) = fX11_reckonAll_l10 (k + (F' + 1)) (fun b53 M52 => fX11_reckonAll_j351 (k + (F' + 1)) b53 M52) (k + (F' + 1)) (nI q) (nI ([] : List Int64).length) (nI p) (sp_setI M 103 38 0) := rfl
  rw [hv]
  have hj : ∀ a3, ∃ v, fX11_reckonAll_j351 (k + (F' + 1)) a3 M' = some (sp_setL M' 103 39 v) ∧ (a3 = nI 1 → v = sp_L M' 123 0) := by
    intro a3
    unfold fX11_reckonAll_j351
    by_cases h : a3 ≤ 0
    · exact ⟨0, by rw [if_pos h]; rfl, fun q => absurd h (by rw [q]; decide)⟩
    · exact ⟨_, by rw [if_neg h]; rfl, fun _ => rfl⟩
  cases hf : f W with
  | none =>
    rw [hf] at h'
    obtain ⟨a3, g1, g2⟩ := h'
    obtain ⟨v, g3, _⟩ := hj a3
    refine ⟨sp_setL M' 103 39 v, by rw [g1]; exact g3, (fr0.tr f').tr (sp_fr_L (Or.inr (by decide)) rfl), fun _ => g2, fun v hv => by cases hv⟩
  | some v =>
    rw [hf] at h'
    obtain ⟨g1, g2, g3, g4⟩ := h'
    obtain ⟨v2, g5, g6⟩ := hj (nI 1)
    have hx : sp_L M' 123 0 = v := g3.1
    refine ⟨sp_setL M' 103 39 v2, ?_, (fr0.tr f').tr (sp_fr_L (Or.inr (by decide)) rfl), fun h => (by cases h), fun w hw => ?_⟩
    · rw [g1]
      show fX11_reckonAll_l10 (k + (F' + 1)) _ (F' + 1) (nI q) (nI 1) (nI q) M' = _
      unfold fX11_reckonAll_l10
      rw [if_pos (nI_le (Nat.le_refl q) (by omega))]
      exact g5
    · cases hw
      exact ⟨g2, by rw [sp_L_setL, if_pos ⟨rfl, rfl⟩, g6 rfl, hx]⟩
end EvRef2
