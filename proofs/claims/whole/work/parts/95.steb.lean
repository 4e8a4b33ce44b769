/-! ===== expressions: one round of the class behind an operand ===== -/
section SteB
variable {p0 : PP} {F n f nw t lv br base : Nat} {q : Nat → Nat} {ord td : Bool} {M : sp_Mem} {A : Sk} {v : ev_S}
theorem rnd_0 {kx : sp_Mem → Option (Int32 × sp_Mem)} {kf i : Nat} (hi : i ≤ 400) : fX2_readValue_l44 F kx (kf + 1) 0 (nI i) M = ((fX2_joins F M).bind fun x8 => if x8.1 = 0 then ((fX2_closes F x8.2).bind fun x10 => if x10.1 = 0 then ((fX2_isWhole F x10.2).bind fun x12 => (sp_b01 x12.1).bind fun _ => some (x12.1, x12.2)) else (fX2_readValue_l44 F kx kf 0 (nI (i + 1)) x10.2)) else (fX2_readValue_l44 F kx kf 1 (nI (i + 1)) x8.2)) := by
  rw [fX2_readValue_l44, if_neg (show ¬ (400 : Int32) < nI i by rw [show (400 : Int32) = nI 400 from rfl, nIlt (by omega) (by omega)]; omega), if_pos rfl, nI_1]
/-- what stB says where it ends -/
def OB (M' : sp_Mem) (q : Nat → Nat) (n f : Nat) (ord : Bool) (nw : Nat) (p0 : PP) (base t lv : Nat) (b : Int32) (o : Nat × ev_S) : Prop := TXC M' q n ∧ TKC M' q n f ∧ (b = 0 ∨ b = 1) ∧ (o.1 = 0 → b = 0) ∧ (o.1 = 1 → b = 1 ∧ DN M' q n f ord nw p0 o.2 t lv ∧ (base = 21 → ev_T o.2)) ∧ (o.1 = 2 → sg q n f 41 = true ∧ base = 21) ∧ o.1 ≤ 2
theorem stb_c {kx : sp_Mem → Option (Int32 × sp_Mem)} {kf i : Nat} (hF : 1000 ≤ F) (hi : i ≤ 400) (hB : base = 20 ∨ base = 21) (hbr : br ≤ 8) (h : BX M q n f ord nw p0 base A v td t lv br) :
  (∀ o, stB q n (f, A, v, td, lv, br) = .inl o → ∃ b M', fX2_readValue_l44 F kx (kf + 1) 0 (nI i) M = some (b, M') ∧ xfr M M' ∧ OB M' q n f ord nw p0 base t lv b o) ∧
  (∀ s, stB q n (f, A, v, td, lv, br) = .inr (.inl s) → ∃ M', fX2_readValue_l44 F kx (kf + 1) 0 (nI i) M = fX2_readValue_l44 F kx kf 1 (nI (i + 1)) M' ∧ xfr M M' ∧ EX M' q n s.1 ord nw p0 base s.2.1 t s.2.2.1 s.2.2.2 ∧ f + 1 ≤ s.1 ∧ s.2.2.1 = lv ∧ s.2.2.2 ≤ 8) ∧
  (∀ s, stB q n (f, A, v, td, lv, br) = .inr (.inr s) → ∃ M', fX2_readValue_l44 F kx (kf + 1) 0 (nI i) M = fX2_readValue_l44 F kx kf 0 (nI (i + 1)) M' ∧ xfr M M' ∧ BX M' q n s.1 ord nw p0 base s.2.1 s.2.2.1 s.2.2.2.1 t s.2.2.2.2.1 s.2.2.2.2.2 ∧ f + 1 ≤ s.1 ∧ s.2.2.2.2.1 = lv ∧ s.2.2.2.2.2 ≤ 8) := by
  have h0 := b0 hB
  have hfn := (BX_t h).2.1
  have hw := BX_w h
  have push : ∀ {A' : Sk}, jnK q n f ≠ 0 → (∃ M', fX2_joins F M = some (1, M') ∧ xfr M M' ∧ EX M' q n (nxt q n f) ord nw p0 base A' t lv br) → ∃ M', fX2_readValue_l44 F kx (kf + 1) 0 (nI i) M = fX2_readValue_l44 F kx kf 1 (nI (i + 1)) M' ∧ xfr M M' ∧ EX M' q n (nxt q n f) ord nw p0 base A' t lv br ∧ f + 1 ≤ nxt q n f ∧ lv = lv ∧ br ≤ 8 := by
    rintro A' hne ⟨M', e1, e2, e3⟩
    refine ⟨M', ?_, e2, e3, (nxt_gt hfn (jnK_S hne)).1, rfl, hbr⟩
    rw [rnd_0 hi, e1, Option.bind_some]
    dsimp only
    rw [if_neg (by decide)]
  have bz : bnd 0 = 0 := rfl
  unfold stB
  dsimp only
  by_cases c1 : 5 ≤ bnd (jnK q n f) ∧ td = false
  · rw [if_pos c1]
    refine ⟨fun o e => (by cases e), fun s e => ?_, fun s e => (by cases e)⟩
    cases e
    exact push (fun z => by rw [z, bz] at c1; omega) (jy1_c hF h0 hbr h c1)
  rw [if_neg c1]
  by_cases c2 : bnd (jnK q n f) = 4 ∧ td = false ∧ cTB (tpk (fo 5 A v).1) = true
  · rw [if_pos c2]
    refine ⟨fun o e => (by cases e), fun s e => ?_, fun s e => (by cases e)⟩
    cases e
    exact push (fun z => by rw [z, bz] at c2; omega) (jy2_c hF h0 hbr h c2)
  rw [if_neg c2]
  by_cases c3 : (bnd (jnK q n f) = 1 ∨ bnd (jnK q n f) = 2) ∧ (td = true ∨ bnd (tpk (fo 5 A v).1) = 4)
  · rw [if_pos c3]
    refine ⟨fun o e => (by cases e), fun s e => ?_, fun s e => (by cases e)⟩
    cases e
    exact push (fun z => by rw [z, bz] at c3; omega) (jy3_c hF h0 hbr h c3)
  rw [if_neg c3]
  obtain ⟨M1, A', v', e1, e2, e3, e4⟩ := jno_c hF h0 hbr h c1 c2 c3
  have pre : fX2_readValue_l44 F kx (kf + 1) 0 (nI i) M = ((fX2_closes F M1).bind fun x10 => if x10.1 = 0 then ((fX2_isWhole F x10.2).bind fun x12 => (sp_b01 x12.1).bind fun _ => some (x12.1, x12.2)) else (fX2_readValue_l44 F kx kf 0 (nI (i + 1)) x10.2)) := by
    rw [rnd_0 hi, e1, Option.bind_some]
    dsimp only
    rw [if_pos rfl]
  have close : ∀ {A1 : Sk} {v1 : ev_S} {td1 : Bool}, tkS q n f ≠ 0 → (∃ M', fX2_closes F M1 = some (1, M') ∧ xfr M1 M' ∧ BX M' q n (nxt q n f) ord nw p0 base A1 v1 td1 t lv (br - 1)) → ∃ M', fX2_readValue_l44 F kx (kf + 1) 0 (nI i) M = fX2_readValue_l44 F kx kf 0 (nI (i + 1)) M' ∧ xfr M M' ∧ BX M' q n (nxt q n f) ord nw p0 base A1 v1 td1 t lv (br - 1) ∧ f + 1 ≤ nxt q n f ∧ lv = lv ∧ br - 1 ≤ 8 := by
    rintro A1 v1 td1 hne ⟨M', r1, r2, r3⟩
    refine ⟨M', ?_, (e2.mono (by decide) (by decide)).tr r2, r3, (nxt_gt hfn hne).1, rfl, by omega⟩
    rw [pre, r1, Option.bind_some]
    dsimp only
    rw [if_neg (by decide)]
  have fin : ∀ {M2 M3 : sp_Mem} {b : Int32}, fX2_closes F M1 = some (0, M2) → fX2_isWhole F M2 = some (b, M3) → (b = 0 ∨ b = 1) → fX2_readValue_l44 F kx (kf + 1) 0 (nI i) M = some (b, M3) := by
    intro M2 M3 b r1 r2 hb
    rw [pre, r1, Option.bind_some]
    dsimp only
    rw [if_pos rfl, r2, Option.bind_some]
    dsimp only
    rw [show sp_b01 b = some () from if_pos hb, Option.bind_some]
  by_cases c4 : sg q n f 41 = true ∧ (td = true ∨ bnd (tpk (fo 5 A v).1) = 4)
  · rw [if_pos c4]
    have hS : tkS q n f ≠ 0 := by rw [(sg_S c4.1).1]; decide
    rw [← e4] at c4 ⊢
    by_cases c5 : tpk (fo 1 (fo 5 A' v').1 (fo 5 A' v').2).1 = 23
    · rw [if_pos c5]
      refine ⟨fun o e => (by cases e), fun s e => (by cases e), fun s e => ?_⟩
      cases e
      exact close hS (cy1_c hF hB hbr e3 c4.1 c4.2 c5)
    · rw [if_neg c5]
      refine ⟨fun o e => ?_, fun s e => (by cases e), fun s e => (by cases e)⟩
      cases e
      obtain ⟨M2, r1, r2, r3⟩ := c2_c hF hB e3 c4.1 c4.2 c5
      obtain ⟨b, M3, s1, s2, s3, s4, s5⟩ := who_any hF hB r3
      have hb21 : base = 21 := by
        have hwx := BX_w e3
        have htx : td = true → ev_T v' ∧ cTB (tpk A') = true := by
          obtain ⟨_, _, _, _, _, rfl, _, _, _, _, _, hq, _⟩ := e3
          exact hq
        have hct := isT_ctb (b := 1) (by omega) (by omega) h0 hwx htx c4.2
        have hw5 := (fo_wf (b := 5) (by omega) h0 A' br v' hwx).1
        have hw1 := fo_wf (b := 1) (by omega) h0 _ br (fo 5 A' v').2 hw5
        have h21 := (cTB_0 hct hw1.2.1).resolve_right c5
        obtain ⟨x, hx⟩ := WFk_b hw1.1 (Or.inr h21)
        have hwb := hw1.1
        rw [hx] at hwb h21
        exact hwb.1.symm.trans h21
      exact ⟨b, M3, fin r1 s1 s5, ((e2.tr r2).tr s2).mono (by decide) (by decide), s3, s4, s5, fun z => (by cases z), fun z => (by cases z), fun _ => ⟨c4.1, hb21⟩, Nat.le_refl _⟩
  rw [if_neg c4]
  by_cases c6 : sg q n f 93 = true ∧ tpk (fo 5 A v).1 = 22
  · rw [if_pos c6]
    have hS : tkS q n f ≠ 0 := by rw [(sg_S c6.1).1]; decide
    rw [← e4] at c6 ⊢
    refine ⟨fun o e => (by cases e), fun s e => (by cases e), fun s e => ?_⟩
    cases e
    exact close hS (cy2_c hF hB hbr e3 c6.1 c6.2)
  rw [if_neg c6]
  obtain ⟨M2, A2, v2, r1, r2, r3, r4⟩ := cno_c hF hB e3 (by rw [e4]; exact c4) (by rw [e4]; exact c6)
  rw [e4] at r4
  have H := who_c hF hB r3
  rw [r4] at H
  have fr3 : ∀ {M3 : sp_Mem}, sp_fr [99] [(97, 3), (96, 4)] M2 M3 → xfr M M3 := fun s2 => ((e2.tr r2).tr s2).mono (by decide) (by decide)
  have W := fo_wf (b := 5) (by omega) h0 A br v hw
  by_cases c7 : tpk (fo 5 A v).1 = 20
  · rw [if_pos c7]
    refine ⟨fun o e => ?_, fun s e => (by cases e), fun s e => (by cases e)⟩
    cases e
    obtain ⟨M3, s1, s2, s3⟩ := H.1 c7
    refine ⟨1, M3, fin r1 s1 (Or.inr rfl), fr3 s2, s3.1, s3.2.1, Or.inr rfl, fun z => (by cases z), fun _ => ⟨rfl, s3, fun z => ?_⟩, fun z => (by cases z), (show 1 ≤ 2 by decide)⟩
    obtain ⟨x, hx⟩ := WFk_b W.1 (Or.inl c7)
    rw [hx] at W c7
    have c7 : x.1 = 20 := c7
    have : x.1 = base := W.1.1
    omega
  rw [if_neg c7]
  by_cases c8 : td = true ∨ bnd (tpk (fo 5 A v).1) = 4
  · rw [if_pos c8]
    by_cases c9 : tpk (fo 1 (fo 5 A v).1 (fo 5 A v).2).1 = 21
    · rw [if_pos c9]
      refine ⟨fun o e => ?_, fun s e => (by cases e), fun s e => (by cases e)⟩
      cases e
      obtain ⟨M3, s1, s2, s3, s4⟩ := H.2.1 c7 c8 c9
      exact ⟨1, M3, fin r1 s1 (Or.inr rfl), fr3 s2, s3.1, s3.2.1, Or.inr rfl, fun z => (by cases z), fun _ => ⟨rfl, s3, fun _ => s4⟩, fun z => (by cases z), (show 1 ≤ 2 by decide)⟩
    · rw [if_neg c9]
      refine ⟨fun o e => ?_, fun s e => (by cases e), fun s e => (by cases e)⟩
      cases e
      obtain ⟨M3, s1, s2, s3, s4⟩ := H.2.2 c7 (fun w => c9 w.2)
      exact ⟨0, M3, fin r1 s1 (Or.inl rfl), fr3 s2, s3, s4, Or.inl rfl, fun _ => rfl, fun z => (by cases z), fun z => (by cases z), (show 0 ≤ 2 by decide)⟩
  · rw [if_neg c8]
    refine ⟨fun o e => ?_, fun s e => (by cases e), fun s e => (by cases e)⟩
    cases e
    obtain ⟨M3, s1, s2, s3, s4⟩ := H.2.2 c7 (fun w => c8 w.1)
    exact ⟨0, M3, fin r1 s1 (Or.inl rfl), fr3 s2, s3, s4, Or.inl rfl, fun _ => rfl, fun z => (by cases z), fun z => (by cases z), (show 0 ≤ 2 by decide)⟩
end SteB
