/-! ===== orders: all clauses; what is put by and given back ===== -/
theorem or_l77 {F : Nat} {kx : Int32 → sp_Mem → Option (Int32 × sp_Mem)} {M : sp_Mem} {a1 : Int32} : ∀ (m i n : Nat), i + m = 736 → m < n → fX11_orders_l77 F kx n a1 (nI i) (sp_cpy M 108 110 0 0 i) = kx a1 (sp_cpy M 108 110 0 0 736) := by
  intro m
  induction m with
  | zero =>
    intro i n hi hn
    obtain ⟨n, rfl⟩ : ∃ m, n = m + 1 := ⟨n - 1, by omega⟩
    unfold fX11_orders_l77
    rw [show i = 736 by omega, if_pos (show (736 : Int32) ≤ nI 736 from nI_le (Nat.le_refl 736) (by omega))]
  | succ m ih =>
    intro i n hi hn
    obtain ⟨n, rfl⟩ : ∃ m, n = m + 1 := ⟨n - 1, by omega⟩
    unfold fX11_orders_l77
    simp only [sp_do]
    rw [if_neg (show ¬ (736 : Int32) ≤ nI i from nI_ge (b := 736) (by omega) (by omega)), sp_ix_nI (show i < 828 by omega) (by omega), Option.bind_some, sp_ix_nI (show i < 736 by omega) (by omega), Option.bind_some]
    rw [cpy_s0 (show sp_I (sp_cpy M 108 110 0 0 i) 108 i = sp_I M 108 (0 + i) by rw [I_cpy_ne (by decide), Nat.zero_add]), nI_1]
    exact ih (i + 1) n (by omega) (by omega)
theorem or_l104 {F : Nat} {kx : Int32 → sp_Mem → Option (Int32 × sp_Mem)} {M : sp_Mem} {a1 : Int32} : ∀ (m i n : Nat), i + m = 16 → m < n → fX11_orders_l104 F kx n a1 (nI i) (sp_cpy M 109 111 0 0 i) = kx a1 (sp_cpy M 109 111 0 0 16) := by
  intro m
  induction m with
  | zero =>
    intro i n hi hn
    obtain ⟨n, rfl⟩ : ∃ m, n = m + 1 := ⟨n - 1, by omega⟩
    unfold fX11_orders_l104
    rw [show i = 16 by omega, if_pos (show (16 : Int32) ≤ nI 16 from nI_le (Nat.le_refl 16) (by omega))]
  | succ m ih =>
    intro i n hi hn
    obtain ⟨n, rfl⟩ : ∃ m, n = m + 1 := ⟨n - 1, by omega⟩
    unfold fX11_orders_l104
    simp only [sp_do]
    rw [if_neg (show ¬ (16 : Int32) ≤ nI i from nI_ge (b := 16) (by omega) (by omega)), sp_ix_nI (show i < 16 by omega) (by omega), Option.bind_some, Option.bind_some]
    rw [cpy_s0 (show sp_I (sp_cpy M 109 111 0 0 i) 109 i = sp_I M 109 (0 + i) by rw [I_cpy_ne (by decide), Nat.zero_add]), nI_1]
    exact ih (i + 1) n (by omega) (by omega)
theorem gb_e {F : Nat} {M : sp_Mem} {a1 : Int32} (hF : 1000 ≤ F) : fX11_giveBack F M a1 = some (sp_setI (sp_cpy (sp_cpy (sp_cpy M 108 105 782 5 46) 110 108 0 0 736) 111 109 0 0 16) 103 8 a1) := by
  unfold fX11_giveBack
  rw [show fX11_putBack F M 17 = some (sp_cpy M 108 105 (46 * 17) 5 46) from putB_e (q := 17) hF (by omega), Option.bind_some]
  have e1 := gb_l8 (F := F) (M := sp_cpy M 108 105 782 5 46) (a1 := a1) (kx := fun b7 M6 => fX11_giveBack_l35 F (fun b13 M12 => sp_do (sp_setI M12 103 8 b13) fun M14 => some M14) F b7 0 M6) 736 0 F (by omega) (by omega)
  rw [cpy_0] at e1
  refine Eq.trans (show fX11_giveBack_l8 F _ F a1 0 (sp_cpy M 108 105 (46 * 17) 5 46) = _ from e1) ?_
  have e2 := gb_l35 (F := F) (M := sp_cpy (sp_cpy M 108 105 782 5 46) 110 108 0 0 736) (a1 := a1) (kx := fun b13 M12 => sp_do (sp_setI M12 103 8 b13) fun M14 => some M14) 16 0 F (by omega) (by omega)
  rw [cpy_0] at e2
  exact e2
/-- the class's past, copied -/
theorem pcp_c {M : sp_Mem} {a b w u : Nat} {e : Pe} (hab : a + 3 ≤ b ∨ b + 3 ≤ a) (h : PC M a w u e) : ∃ M', fX3_copyFrom M b a = some M' ∧ PC M' b w u e := by
  obtain ⟨h1, h2, h3, h4, h5⟩ := h
  refine ⟨_, rfl, h1, h2, ?_, ?_, fun k hk => ⟨?_, fun i hi => ?_⟩⟩
  · rw [I_eq, I_ne _ _ _ (by omega), I_cpy_ne (by omega), I_cpy_ne (by omega)]; exact h3
  · rw [I_nf _ _ _ (by decide), I_eq, I_cpy_ne (by omega), I_cpy_ne (by omega)]; exact h4
  · rw [I_ne _ _ _ (by omega), I_ne _ _ _ (by omega), I_cpy_at (by omega), I_cpy_ne (by omega)]; exact (h5 k hk).1
  · rw [I_ne _ _ _ (by omega), I_ne _ _ _ (by omega), I_cpy_ne (by omega), I_cpy_at (by omega)]; exact (h5 k hk).2 i hi
section Ord3
variable {F n np len : Nat} {cl : List GC} {lf : Option (List ev_C)}
abbrev cof (M M' : sp_Mem) : Prop := sp_fr [38, 3, 36, 4, 25, 26, 37, 24, 28, 33] [(22, 5), (22, 4), (35, 2), (35, 3)] M M'
theorem cls_c {kx : sp_Mem → Option (Int32 × sp_Mem)} {r0 : Nat → Int32} (hF : 1000 ≤ F) (hs : ∀ c ∈ cl, sumsOk c) : ∀ (cs : List GC) (i kf B : Nat) (M : sp_Mem) (S : OS), cl.drop i = cs → cs.length < kf → sp_I M 97 2 = nI cl.length → OCC F M len cl S lf n → SOK r0 n np S B → B + 20 * cs.length ≤ 1000 → i ≤ cl.length →
  (∀ j, ruO lf n np cs i S = .inl j → ∃ M', fX10_orders_l60 F kx kf (nI i) M = some (-3, rfM (sp_setI M' 0 15 (nI j)) 3) ∧ cof M M') ∧
  (∀ S', ruO lf n np cs i S = .inr S' → (∃ M', fX10_orders_l60 F kx kf (nI i) M = kx M' ∧ cof M M' ∧ OCC F M' len cl S' lf n) ∧ SOK r0 n np S' 1000)
  | [], i, kf, B, M, S, hd, hk, h2, h, hS, hB, hi => by
    obtain ⟨kf, rfl⟩ : ∃ m, kf = m + 1 := ⟨kf - 1, by omega⟩
    have hlen := h.2.2.2.2.2.2.2.2.2.2
    have hge : cl.length ≤ i := by
      by_cases z : cl.length ≤ i
      · exact z
      · have := congrArg List.length hd
        rw [List.length_drop] at this
        simp at this
        omega
    refine ⟨fun j z => (by cases z), fun S' z => ?_⟩
    cases z
    refine ⟨⟨M, ?_, sp_fr.refl _ _ _, h⟩, ?_⟩
    · rw [fX10_orders_l60, h2, if_pos (nI_le (by omega) (by omega))]
    · obtain ⟨k1, k2, k3, k4, k5⟩ := hS
      exact ⟨k1, k2, k3, by omega, k5⟩
  | c :: cs, i, kf, B, M, S, hd, hk, h2, h, hS, hB, hi => by
    obtain ⟨kf, rfl⟩ : ∃ m, kf = m + 1 := ⟨kf - 1, by omega⟩
    rw [List.length_cons] at hk hB
    have hlen := h.2.2.2.2.2.2.2.2.2.2
    have hlt : i < cl.length := by
      by_cases z : i < cl.length
      · exact z
      · rw [List.drop_eq_nil_of_le (by omega)] at hd; cases hd
    have hc : cl[i]? = some c := by
      have := List.head?_drop (l := cl) (i := i)
      rw [hd] at this
      exact this.symm
    have hd2 : cl.drop (i + 1) = cs := by
      rw [← List.tail_drop, hd]
      rfl
    have hm : c ∈ cl := List.mem_of_getElem? hc
    have sc := hs c hm
    obtain ⟨g0, g1, g2, g3, g4⟩ := h.2.2.2.2.2.2.2.2.2.1 i c hc
    have R := rn_c (kx := fun M17 => some (1, M17)) hF hc sc c.2.2.2.1 0 F B M S (by omega) (by have := sc.2.2.2.2; omega) h hS (by have := sc.2.2.2.2; omega)
    have pre : fX7_runClause F M 22 97 (nI i) = fX7_runClause_l18 F 22 97 (fun M17 => some (1, M17)) F (nI i) (nI c.1) (nI c.2.2.2.1) (nI 0) M := by
      unfold fX7_runClause
      rw [show fX9_slot M 97 (nI i) 0 = some (nI c.1) from by rw [← g0]; exact slot_o (a := 0) h.2.2.2.2 (by omega) (by omega), Option.bind_some, show fX9_slot M 97 (nI i) 3 = some (nI c.2.2.2.1) from by rw [← g3]; exact slot_o (a := 3) h.2.2.2.2 (by omega) (by omega), Option.bind_some]
      rfl
    have ste : ∀ {b : Int32} {M' : sp_Mem}, fX7_runClause F M 22 97 (nI i) = some (b, M') → fX10_orders_l60 F kx (kf + 1) (nI i) M = (if b = 0 then (sp_do (sp_setI M' 0 15 (nI i)) fun M11 => (fX10_refuse M11 (-3)).bind fun x12 => some (x12.1, x12.2)) else ((fX10_orders_l60 F kx kf) (nI (i + 1)) M')) := by
      intro b M' e
      rw [fX10_orders_l60, h2, if_neg (nI_ge hlt (by omega)), e, Option.bind_some, nI_1]
    rw [ruO]
    cases hr : rnO lf n np c c.2.2.2.1 S with
    | none =>
      refine ⟨fun j z => ?_, fun S' z => (by cases z)⟩
      cases z
      obtain ⟨M', e1⟩ := R.1 hr
      have e2 := pre.trans e1
      have f2 := frX7_runClause e2
      refine ⟨M', ?_, f2⟩
      rw [ste e2, if_pos rfl]
      simp only [sp_do]
      rw [rf_3, Option.bind_some]
    | some S1 =>
      obtain ⟨⟨M', e1, e3⟩, e4⟩ := R.2 S1 hr
      have e2 := pre.trans e1
      have f2 : cof M M' := frX7_runClause e2
      have J := cls_c (kx := kx) hF hs cs (i + 1) kf (B + c.2.2.2.1) M' S1 hd2 (by omega) ((f2.1 97 2 (by decide) (by decide)).trans h2) e3 e4 (by have := sc.2.2.2.2; omega) (by omega)
      rw [ste e2, if_neg (by decide)]
      dsimp only
      refine ⟨fun j z => ?_, fun S' z => ?_⟩
      · obtain ⟨M2, r1, r2⟩ := J.1 j z
        exact ⟨M2, r1, f2.tr r2⟩
      · obtain ⟨⟨M2, r1, r2, r3⟩, r4⟩ := J.2 S' z
        exact ⟨⟨M2, r1, f2.tr r2, r3⟩, r4⟩
/-! the reference's loops -/
abbrev rof (M M' : sp_Mem) : Prop := sp_fr [122, 123, 121, 108, 109, 105, 124, 125] [(103, 51), (103, 20), (103, 38), (103, 39), (103, 34), (103, 40), (103, 8), (103, 49), (103, 48)] M M'
def fbO (F : Nat) (a1 : Int32) (j : Nat) (M : sp_Mem) : Option (Int32 × sp_Mem) := (fX11_giveBack F M a1).bind fun M33 => sp_do (sp_setI M33 103 50 (nI j)) fun M34 => (fX11_tell M34 (-3)).bind fun x35 => some (x35.1, x35.2)
theorem rn_r {c : GC} {kx : Int32 → Int32 → sp_Mem → Option (Int32 × sp_Mem)} {i : Nat} {a1 : Int32} {r0 : Nat → Int32} (hF : 1000 ≤ F) (hc : cl[i]? = some c) (hs : sumsOk c) (hT : tT c) : ∀ (m a3 kf B : Nat) (M : sp_Mem) (S : OS), a3 + m = c.2.2.2.1 → m < kf → ORR F M len cl S lf n → SOK r0 n np S B →
  (rnO lf n np c m S = none → ∃ M', fX11_orders_l150 F kx kf a1 (nI i) (nI a3) M = fbO F a1 i M' ∧ rof M M' ∧ kHi M M' ∧ ∃ Sx Bx, ORR F M' len cl Sx lf n ∧ SOK r0 n np Sx Bx) ∧
  (∀ S', rnO lf n np c m S = some S' → (∃ M', fX11_orders_l150 F kx kf a1 (nI i) (nI a3) M = kx a1 (nI i) M' ∧ rof M M' ∧ kHi M M' ∧ ORR F M' len cl S' lf n) ∧ SOK r0 n np S' (B + m))
  | 0, a3, kf, B, M, S, ha, hk, h, hS => by
    obtain ⟨kf, rfl⟩ : ∃ m, kf = m + 1 := ⟨kf - 1, by omega⟩
    have hi12 : i < 12 := by
      have := (List.getElem?_eq_some_iff.mp hc).1
      have := h.2.2.2.2.2.2
      omega
    refine ⟨fun z => (by cases z), fun S' z => ?_⟩
    cases z
    refine ⟨⟨M, ?_, sp_fr.refl _ _ _, fun _ _ => rfl, h⟩, hS⟩
    obtain ⟨_, _, _, _, c4⟩ := h.2.2.2.2.1 i c hc
    rw [fX11_orders_l150, show (8 : Int32) * nI i + 7 = nI (8 * i + 7) by rw [show (8 : Int32) * nI i = nI (8 * i) from nI_mul 8 _]; exact nI_add _ 7, sp_ix_nI (show 8 * i + 7 < 96 by omega) (by omega), Option.bind_some, c4, if_pos (nI_le (by omega) (by have := hs.2.2.2.2; omega))]
  | m + 1, a3, kf, B, M, S, ha, hk, h, hS => by
    obtain ⟨kf, rfl⟩ : ∃ m, kf = m + 1 := ⟨kf - 1, by omega⟩
    have hi12 : i < 12 := by
      have := (List.getElem?_eq_some_iff.mp hc).1
      have := h.2.2.2.2.2.2
      omega
    have I := run_r1 hF hc hs hT h hS
    obtain ⟨_, _, _, _, c4⟩ := h.2.2.2.2.1 i c hc
    have ste : ∀ {v : Int32} {M' : sp_Mem}, fX11_run F M (nI (8 * i)) = some (v, M') → fX11_orders_l150 F kx (kf + 1) a1 (nI i) (nI a3) M = (if 0 ≤ v then ((fX11_orders_l150 F kx kf) a1 (nI i) (nI (a3 + 1)) M') else fbO F a1 i M') := by
      intro v M' e
      rw [fX11_orders_l150, show (8 : Int32) * nI i + 7 = nI (8 * i + 7) by rw [show (8 : Int32) * nI i = nI (8 * i) from nI_mul 8 _]; exact nI_add _ 7, sp_ix_nI (show 8 * i + 7 < 96 by omega) (by omega), Option.bind_some, c4, if_neg (nI_ge (show a3 < c.2.2.2.1 by omega) (by have := hs.2.2.2.2; omega)), show (8 : Int32) * nI i = nI (8 * i) from nI_mul 8 _, e, Option.bind_some, nI_1]
      rfl
    rw [rnO]
    cases hi : itr lf n np c S with
    | none =>
      refine ⟨fun _ => ?_, fun S' z => (by cases z)⟩
      obtain ⟨M', e1, e2, e3⟩ := I.1 hi
      exact ⟨M', by rw [ste e1, if_neg (by decide)], frX11_run e1, e2, S, B, e3, hS⟩
    | some S1 =>
      obtain ⟨M1, e1, e2, e3⟩ := I.2 S1 hi
      have f1 : rof M M1 := frX11_run e1
      have J := rn_r (kx := kx) (a1 := a1) hF hc hs hT m (a3 + 1) kf (B + 1) M1 S1 (by omega) (by omega) e3 (itr_ok hS hs.1 hi)
      rw [Option.bind_some, ste e1, if_pos (by decide)]
      refine ⟨fun z => ?_, fun S' z => ?_⟩
      · obtain ⟨M', r1, r2, r3, r4⟩ := J.1 z
        exact ⟨M', r1, f1.tr r2, e2.tr r3, r4⟩
      · obtain ⟨⟨M', r1, r2, r3, r4⟩, r5⟩ := J.2 S' z
        rw [show B + 1 + m = B + (m + 1) by omega] at r5
        exact ⟨⟨M', r1, f1.tr r2, e2.tr r3, r4⟩, r5⟩
theorem cls_r {kx : sp_Mem → Option (Int32 × sp_Mem)} {a1 : Int32} {r0 : Nat → Int32} (hF : 1000 ≤ F) (hs : ∀ c ∈ cl, sumsOk c) (hT : ∀ c ∈ cl, tT c) : ∀ (cs : List GC) (i kf B : Nat) (M : sp_Mem) (S : OS), cl.drop i = cs → cs.length < kf → sp_I M 103 21 = nI cl.length → ORR F M len cl S lf n → SOK r0 n np S B → i ≤ cl.length →
  (∀ j, ruO lf n np cs i S = .inl j → ∃ M', fX11_orders_l140 F kx kf a1 (nI i) M = fbO F a1 j M' ∧ rof M M' ∧ kHi M M' ∧ ∃ Sx Bx, ORR F M' len cl Sx lf n ∧ SOK r0 n np Sx Bx) ∧
  (∀ S', ruO lf n np cs i S = .inr S' → ∃ M', fX11_orders_l140 F kx kf a1 (nI i) M = kx M' ∧ rof M M' ∧ ORR F M' len cl S' lf n)
  | [], i, kf, B, M, S, hd, hk, h2, h, hS, hi => by
    obtain ⟨kf, rfl⟩ : ∃ m, kf = m + 1 := ⟨kf - 1, by omega⟩
    have hlen := h.2.2.2.2.2.2
    have hge : cl.length ≤ i := by
      by_cases z : cl.length ≤ i
      · exact z
      · have := congrArg List.length hd
        rw [List.length_drop] at this
        simp at this
        omega
    refine ⟨fun j z => (by cases z), fun S' z => ?_⟩
    cases z
    refine ⟨M, ?_, sp_fr.refl _ _ _, h⟩
    rw [fX11_orders_l140, h2, if_pos (nI_le (by omega) (by omega))]
  | c :: cs, i, kf, B, M, S, hd, hk, h2, h, hS, hi => by
    obtain ⟨kf, rfl⟩ : ∃ m, kf = m + 1 := ⟨kf - 1, by omega⟩
    rw [List.length_cons] at hk
    have hlen := h.2.2.2.2.2.2
    have hlt : i < cl.length := by
      by_cases z : i < cl.length
      · exact z
      · rw [List.drop_eq_nil_of_le (by omega)] at hd; cases hd
    have hc : cl[i]? = some c := by
      have := List.head?_drop (l := cl) (i := i)
      rw [hd] at this
      exact this.symm
    have hd2 : cl.drop (i + 1) = cs := by
      rw [← List.tail_drop, hd]
      rfl
    have hm : c ∈ cl := List.mem_of_getElem? hc
    have sc := hs c hm
    have R := rn_r (a1 := a1) (kx := fun b37 b38 M36 => (fX11_orders_l140 F kx kf) b37 (b38 + 1) M36) hF hc sc (hT c hm) c.2.2.2.1 0 F B M S (by omega) (by have := sc.2.2.2.2; omega) h hS
    have pre : fX11_orders_l140 F kx (kf + 1) a1 (nI i) M = fX11_orders_l150 F (fun b37 b38 M36 => (fX11_orders_l140 F kx kf) b37 (b38 + 1) M36) F a1 (nI i) (nI 0) M := by
      rw [fX11_orders_l140, h2, if_neg (nI_ge hlt (by omega))]
      rfl
    rw [ruO]
    cases hr : rnO lf n np c c.2.2.2.1 S with
    | none =>
      refine ⟨fun j z => ?_, fun S' z => (by cases z)⟩
      cases z
      obtain ⟨M', e1, e2, e3, e4⟩ := R.1 hr
      exact ⟨M', pre.trans e1, e2, e3, e4⟩
    | some S1 =>
      obtain ⟨⟨M', e1, e2, e3, e4⟩, e5⟩ := R.2 S1 hr
      have J := cls_r (kx := kx) (a1 := a1) hF hs hT cs (i + 1) kf (B + c.2.2.2.1) M' S1 hd2 (by omega) ((e2.1 103 21 (by decide) (by decide)).trans h2) e4 e5 (by omega)
      have pe2 : fX11_orders_l140 F kx (kf + 1) a1 (nI i) M = fX11_orders_l140 F kx kf a1 (nI (i + 1)) M' := by
        rw [pre, e1, nI_1]
      dsimp only
      rw [pe2]
      refine ⟨fun j z => ?_, fun S' z => ?_⟩
      · obtain ⟨M2, r1, r2, r3, r4⟩ := J.1 j z
        exact ⟨M2, r1, e2.tr r2, e3.tr r3, r4⟩
      · obtain ⟨M2, r1, r2, r3⟩ := J.2 S' z
        exact ⟨M2, r1, e2.tr r2, r3⟩
end Ord3
theorem ordR_p {q : Nat → Nat} {n f lv g lv' : Nat} {c : GC} (h : ordR q n f lv = .inr (g, lv', c)) : sumsOk c := by
  have ts : ∀ {f lv g lv' : Nat} {c c' : GC}, sumsOk c → tsR q n true f lv c = .inr (g, lv', c') → sumsOk c' := by
    intro f lv g lv' c c' hc ht
    obtain ⟨a, b, d, e⟩ := tsR_p ht
    unfold sumsOk
    rw [a, b, d, e]
    exact hc
  have tm : ∀ {f lv g lv' : Nat} {c c' : GC}, sumsOk c → tmR q n f lv c = .inr (g, lv', c') → sumsOk c' := by
    intro f lv g lv' c c' hc ht
    unfold tmR at ht
    by_cases hx : wdx q n f cs_5 = some 0
    · rw [if_pos hx] at ht
      by_cases h5 : tkS q n (nxt q n f) = 2 ∧ 1 ≤ nbT q n (nxt q n f) ∧ nbT q n (nxt q n f) ≤ 20
      · rw [if_pos h5] at ht
        exact ts (c := (c.1, c.2.1, c.2.2.1, nbT q n (nxt q n f), c.2.2.2.2)) ⟨hc.1, hc.2.1, hc.2.2.1, h5.2.1, h5.2.2⟩ ht
      · rw [if_neg h5] at ht; cases ht
    · rw [if_neg hx] at ht
      exact ts hc ht
  unfold ordR at h
  cases hx : wdx q n f cs_2 with
  | none => rw [hx] at h; cases h
  | some j =>
    have hj : j < 4 := wdx_lt hx
    rw [hx] at h
    dsimp only at h
    by_cases h3 : j = 3
    · rw [if_pos h3] at h
      exact tm ⟨by decide, fun z => (by rcases z with z | z <;> cases z), fun z => (by cases z), Nat.le_refl _, by show 1 ≤ 20; omega⟩ h
    · rw [if_neg h3] at h
      cases hr : xr q n true 20 (nxt q n f) lv with
      | inl g1 => rw [hr] at h; cases h
      | inr y =>
        obtain ⟨g1, l1, v1⟩ := y
        rw [hr] at h
        dsimp only at h
        by_cases h1 : j = 1
        · rw [if_pos h1] at h
          exact tm ⟨by show 1 < 4; omega, fun z => (by rcases z with z | z <;> cases z), fun _ z => (by cases z), Nat.le_refl _, by show 1 ≤ 20; omega⟩ h
        · rw [if_neg h1] at h
          by_cases hx2 : wdx q n g1 (if j = 0 then cs_3 else cs_4) = some 0
          · rw [if_pos hx2] at h
            cases hr2 : xr q n true 20 (nxt q n g1) l1 with
            | inl g2 => rw [hr2] at h; cases h
            | inr y2 =>
              obtain ⟨g2, l2, w2⟩ := y2
              rw [hr2] at h
              exact tm ⟨hj, fun _ => ⟨fun z => (by cases z), fun z => (by cases z)⟩, fun z => absurd z h1, Nat.le_refl _, by show 1 ≤ 20; omega⟩ h
          · rw [if_neg hx2] at h; cases h
