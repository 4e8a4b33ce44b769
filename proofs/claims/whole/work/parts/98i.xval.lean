/-! ===== a whole expression, class and reference ===== -/
def xo (q : Nat → Nat) (n : Nat) (ord : Bool) (base f lv : Nat) : Nat × Nat × ev_S × Nat := xrun q n ord 402 (.inl (f, [(base, zS)], lv, 0))
/-- the class's reader between expressions: token f, len steps of code, lv leaves, nc clauses -/
def CR (M : sp_Mem) (q : Nat → Nat) (n f : Nat) (ord : Bool) (len lv nc : Nat) : Prop := TXC M q n ∧ TKC M q n f ∧ sp_N M 99 = 400 ∧ sp_N M 98 = 60 ∧ sp_I M 97 3 = nI len ∧ sp_I M 97 2 = nI nc ∧ sp_I M 96 6 = nI lv ∧ sp_I M 96 7 = bI ord ∧ lv ≤ 50 ∧ nc ≤ 12 ∧ len ≤ f
/-- the reference's -/
def RR (M : sp_Mem) (q : Nat → Nat) (n f : Nat) (ord : Bool) (len lv nc : Nat) : Prop := TXR M q n ∧ TKR M q n f ∧ sp_I M 103 23 = nI len ∧ sp_I M 103 21 = nI nc ∧ sp_I M 103 26 = nI lv ∧ sp_I M 103 20 = bI ord ∧ sp_I M 103 19 = 0 ∧ i8 M ∧ lv ≤ 50 ∧ nc ≤ 12 ∧ len ≤ f
abbrev cfr (M M' : sp_Mem) : Prop := sp_fr [98, 99, 100, 101] [(94, 2), (94, 3), (94, 4), (96, 4), (96, 5), (96, 6), (96, 8), (97, 2), (97, 3)] M M'
theorem slot_c {M : sp_Mem} {nc a : Nat} {x : Int32} (hN : sp_N M 98 = 60) (h2 : sp_I M 97 2 = nI nc) (h1 : 1 ≤ nc) (h12 : nc ≤ 12) (ha : a < 5) : fX9_setSlot M 97 (nI a) x = some (sp_setI M 98 (5 * (nc - 1) + a) x) := by
  unfold fX9_setSlot
  simp only [sp_do]
  have e : (sp_I M 97 2 - 1) * 5 + nI a = nI (5 * (nc - 1) + a) := by
    rw [h2, show nI nc - 1 = nI (nc - 1) from nI_sub (b := 1) (by omega) (by omega), show nI (nc - 1) * 5 = nI ((nc - 1) * 5) from nI_mul _ 5, nI_add, Nat.mul_comm (nc - 1) 5]
  rw [e, if_neg (show ¬ nI (5 * (nc - 1) + a) < 0 by rw [Int32.lt_iff_toInt_lt, nI_toInt (by omega)]; show ¬ (((5 * (nc - 1) + a : Nat) : Int) < 0); omega), show sp_N M (97 + 1) = 60 from hN, if_neg (show ¬ Int32.ofNat 60 ≤ nI (5 * (nc - 1) + a) from nI_ge (by omega) (by omega)), sp_ix_nI (show 5 * (nc - 1) + a < 60 by omega) (by omega), Option.bind_some]
section XVal
variable {F n f len lv nc : Nat} {q : Nat → Nat} {ord : Bool} {M : sp_Mem}
theorem val_c {base a : Nat} (hF : 1000 ≤ F) (hB : base = 20 ∨ base = 21) (ha : a < 5) (hab : nI base = (if nI a = 4 then 21 else 20)) (h : CR M q n f ord len lv nc) (h1 : 1 ≤ nc) (hlen : len + 1 ≤ f) : ∃ b M', fX2_readValue F M (nI a) = some (b, M') ∧ sp_fr [98, 99, 100, 101] [(94, 2), (94, 3), (94, 4), (96, 4), (96, 5), (96, 6), (96, 8), (97, 3)] M M' ∧ sp_I M' 98 = sp_I (sp_setI M 98 (5 * (nc - 1) + a) (nI len)) 98 ∧ OC M' q n ord (nwO ord) (len, ev_cc (sp_I M 99) len) base b (xo q n ord base f lv) := by
  obtain ⟨hT, hK, h99, h98, h3, h2, h6, h7, hlv, hnc, _⟩ := h
  have hn := hT.1
  have hfn := hK.1
  let M1 := sp_setI M 98 (5 * (nc - 1) + a) (nI len)
  let M2 := sp_setI M1 96 4 0
  let M3 := sp_setI M2 96 5 0
  let M4 := sp_setI (sp_setI M3 100 0 (nI base)) 96 4 (nI 1)
  have f1 : sp_fr [98] [] M M1 := sp_fr_I (Or.inl (by decide)) rfl
  have f4 : sp_fr [98, 100] [(96, 4), (96, 5)] M M4 := ((((sp_fr_I (Or.inl (by decide)) rfl).tr (sp_fr_I (Or.inr (by decide)) rfl)).tr (sp_fr_I (Or.inr (by decide)) rfl)).tr (sp_fr_I (Or.inl (by decide)) rfl)).tr (sp_fr_I (Or.inr (by decide)) rfl)
  have hbk : base < 24 := by omega
  have E : EX M4 q n f ord (nwO ord) (len, ev_cc (sp_I M 99) len) base [(base, zS)] 0 lv 0 := by
    refine ⟨[(base, zS, 0)], len, rfl, ⟨TXC_fr f4 hT (by decide), ⟨hK.1, (f4.1 94 3 (by decide) (by decide)).trans hK.2.1, (f4.1 94 4 (by decide) (by decide)).trans hK.2.2.1, (f4.1 94 2 (by decide) (by decide)).trans hK.2.2.2⟩, ⟨h99, (f4.1 97 3 (by decide) (by decide)).trans h3, by omega, I_eq _ _ _ _, by show 1 ≤ 160; omega, ⟨hbk, ?_, fun z => (by omega), trivial⟩, ?_⟩, (f4.1 96 6 (by decide) (by decide)).trans h6, ?_, (f4.1 96 7 (by decide) (by decide)).trans h7, hlen⟩, ⟨rfl, rfl⟩, ?_⟩
    · rw [I_ne _ _ _ (by decide)]; exact I_eq _ _ _ _
    · unfold Lay
      rw [if_neg (by omega), if_neg (by omega)]
      refine ⟨rfl, rfl, fun i hi => ?_⟩
      rw [fr_A (SA := [99]) (SB := []) f4 (by decide) 99 (by decide)]
    · rw [I_nf _ _ _ (by decide), I_ne _ _ _ (by decide)]; exact I_eq _ _ _ _
    · intro x hx hk
      rcases List.mem_cons.mp hx with e | e
      · rw [e] at hk
        have hk : base = 12 ∨ base = 13 := hk
        omega
      · cases e
  obtain ⟨b, M', r1, r2, r3⟩ := (run_c (F := F) (kx := fun M18 => some (0, M18)) (p0 := (len, ev_cc (sp_I M 99) len)) hF hB 402 F M4 0 f 0 lv 0 [(base, zS)] (by omega) (by omega) (by omega) (by omega) (by omega) hlv).1 E
  refine ⟨b, M', ?_, (f4.mono (by decide) (by decide)).tr (r2.mono (by decide) (by decide)), ?_, r3⟩
  · unfold fX2_readValue fX2_readValue_j38
    rw [h3, slot_c h98 h2 h1 hnc ha, Option.bind_some]
    simp only [sp_do]
    rw [show fX2_push (sp_setI (sp_setI (sp_setI M 98 (5 * (nc - 1) + a) (nI len)) 96 4 0) 96 5 0) (if nI a = 4 then 21 else 20) = some (1, M4) from by
      rw [← hab]
      exact push_c (M := M3) (L := 0) ((I_nf _ _ _ (by decide)).trans (I_eq _ _ _ _)) (by omega) _, Option.bind_some]
    exact r1
  · rw [fr_A (SA := [98]) (SB := []) r2 (by decide) 98 (by decide), I_ne _ _ _ (by decide), I_ne _ _ _ (by decide), I_ne _ _ _ (by decide), I_ne _ _ _ (by decide)]
theorem val_r {base : Nat} (hF : 2000 ≤ F) (hB : base = 20 ∨ base = 21) (h : RR M q n f ord len lv nc) : ∃ M', fX11_readExpression F M (bI (decide (base = 21))) = some M' ∧ yfr M M' ∧ OY M' q n ord (nwO ord) (len, rcM M (bI ord) len) (xo q n ord base f lv) := by
  obtain ⟨hT, hK, h23, h21, h26, h20, h19, hC, hlv, hnc, hlen⟩ := h
  have hn := hT.1
  have hfn := hK.1
  let M2 := sp_setI (sp_setI M 103 29 0) 103 30 0
  have f2 : sp_fr [] [(103, 29), (103, 30)] M M2 := (sp_fr_I (Or.inr (by decide)) rfl).tr (sp_fr_I (Or.inr (by decide)) rfl)
  have E : ER M2 q n f ord (nwO ord) (len, rcM M (bI ord) len) base [] 0 lv 0 := by
    refine ⟨[], len, rfl, ⟨TXR_fr f2 hT (by decide), TKR_fr f2 hK (by decide), ⟨(f2.1 103 23 (by decide) (by decide)).trans h23, by omega, (I_nf _ _ _ (by decide)).trans (I_eq _ _ _ _), by show 0 ≤ 400; omega, trivial, ?_⟩, (f2.1 103 26 (by decide) (by decide)).trans h26, I_eq _ _ _ _, (f2.1 103 20 (by decide) (by decide)).trans h20, (f2.1 103 19 (by decide) (by decide)).trans h19, i8_fr f2 (by decide) hC, hlen⟩, ?_, ⟨rfl, rfl⟩, fun x hx => (by cases hx)⟩
    · refine ⟨rfl, rfl, fun i hi => ?_⟩
      unfold rcM
      rw [fr_A (SA := [114]) (SB := []) f2 (by decide) 114 (by decide), fr_A (SA := [115]) (SB := []) f2 (by decide) 115 (by decide)]
    · intro S hS
      have : S = [] := List.suffix_nil.mp hS
      rw [this]
      exact ⟨0, rfl, rfl⟩
  obtain ⟨M', r1, r2, r3⟩ := (run_y (F := F) (p0 := (len, rcM M (bI ord) len)) (by omega) hB 402 F M2 f 0 lv 0 [] (by omega) (by omega) (by omega) (by omega) hlv).1 E
  refine ⟨M', ?_, (f2.mono (by decide) (by decide)).tr r2, r3⟩
  unfold fX11_readExpression fX11_readExpression_j19
  simp only [sp_do]
  rw [← r1]
  rcases hB with rfl | rfl
  · rfl
  · rfl
end XVal
