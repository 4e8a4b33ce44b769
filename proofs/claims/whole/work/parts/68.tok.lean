/-! ===== tokens ===== -/
/-- the sort of a byte -/
def srt (b : Nat) : Nat := if 97 ≤ b ∧ b ≤ 122 then 1 else if 48 ≤ b ∧ b ≤ 57 then 2 else 3
def skp (q : Nat → Nat) (n : Nat) : Nat → Nat → Nat
  | 0, i => i
  | m + 1, i => if i < n ∧ q i = 32 then skp q n m (i + 1) else i
def ext (q : Nat → Nat) (n s : Nat) : Nat → Nat → Nat
  | 0, i => i
  | m + 1, i => if i < n ∧ srt (q i) = s then ext q n s m (i + 1) else i
def tkF (q : Nat → Nat) (n t : Nat) : Nat := skp q n (n - t) t
/-- the token that begins at f: its sort, its end, what it is worth -/
def tkS (q : Nat → Nat) (n f : Nat) : Nat := if f < n then srt (q f) else 0
def tkT (q : Nat → Nat) (n f : Nat) : Nat := if tkS q n f = 0 then f else if tkS q n f = 3 then f + 1 else ext q n (tkS q n f) (n - f) f
def wrd (q : Nat → Nat) (f : Nat) : Nat → Nat → Int64 → Int64
  | 0, _, w => w
  | m + 1, i, w => wrd q f m (i + 1) (if 10 ≤ i - f then -1 else w * 32 + Int32.toInt64 (nI (q i)) - 96)
def nmb (q : Nat → Nat) : Nat → Nat → Int64 → Int64
  | 0, _, w => w
  | m + 1, i, w => nmb q m (i + 1) (if w ≤ 1000000 then w * 10 + Int32.toInt64 (nI (q i)) - 48 else w)
def tkW (q : Nat → Nat) (n f : Nat) : Int64 := if tkS q n f = 1 then wrd q f (tkT q n f - f) f 0 else if tkS q n f = 2 then nmb q (tkT q n f - f) f 0 else if tkS q n f = 3 then Int32.toInt64 (nI (q f)) else 0
theorem skp_b (q : Nat → Nat) (n : Nat) : ∀ m i, i + m = n → i ≤ skp q n m i ∧ skp q n m i ≤ n
  | 0, i, h => ⟨Nat.le_refl _, by rw [skp]; omega⟩
  | m + 1, i, h => by
    rw [skp]
    split
    · have := skp_b q n m (i + 1) (by omega); omega
    · omega
theorem ext_b (q : Nat → Nat) (n s : Nat) : ∀ m i, i + m = n → i ≤ ext q n s m i ∧ ext q n s m i ≤ n
  | 0, i, h => ⟨Nat.le_refl _, by rw [ext]; omega⟩
  | m + 1, i, h => by
    rw [ext]
    split
    · have := ext_b q n s m (i + 1) (by omega); omega
    · omega
theorem tkF_b {q : Nat → Nat} {n t : Nat} (h : t ≤ n) : t ≤ tkF q n t ∧ tkF q n t ≤ n := skp_b q n (n - t) t (by omega)
theorem tkT_b {q : Nat → Nat} {n f : Nat} (h : f ≤ n) : f ≤ tkT q n f ∧ tkT q n f ≤ n := by
  unfold tkT
  split
  · omega
  · rename_i h0
    have : f < n := by
      unfold tkS at h0
      by_cases z : f < n
      · exact z
      · rw [if_neg z] at h0; exact (h0 rfl).elim
    split
    · omega
    · exact ext_b q n _ (n - f) f (by omega)
theorem srt_e : ∀ b, b < 256 → fX8_sortOf (nI b) = nI (srt b) ∧ (fX11_isSmall (nI b) = 0 ↔ srt b ≠ 1) ∧ (fX11_isDigit (nI b) = 0 ↔ srt b ≠ 2) ∧ (srt b = 1 ∨ srt b = 2 ∨ srt b = 3) ∧ ((nI b = 32) ↔ b = 32) := by decide +kernel
theorem nIlt {a b : Nat} (ha : a < 2 ^ 31) (hb : b < 2 ^ 31) : nI a < nI b ↔ a < b := by
  rw [Int32.lt_iff_toInt_lt, nI_toInt ha, nI_toInt hb]
  omega
/-- the text, as the class has it, and as the reference has it -/
def TXC (M : sp_Mem) (q : Nat → Nat) (n : Nat) : Prop := n ≤ 400 ∧ sp_I M 94 1 = nI n ∧ ∀ i, i < n → sp_I M 95 i = nI (q i) ∧ q i < 256
def TXR (M : sp_Mem) (q : Nat → Nat) (n : Nat) : Prop := n ≤ 400 ∧ sp_I M 103 13 = nI n ∧ ∀ i, i < n → sp_I M 112 i = nI (q i) ∧ q i < 256
def TKC (M : sp_Mem) (q : Nat → Nat) (n f : Nat) : Prop := f ≤ n ∧ sp_I M 94 3 = nI f ∧ sp_I M 94 4 = nI (tkT q n f) ∧ sp_I M 94 2 = nI (tkS q n f)
def TKR (M : sp_Mem) (q : Nat → Nat) (n f : Nat) : Prop := f ≤ n ∧ sp_I M 103 14 = nI f ∧ sp_I M 103 15 = nI (tkT q n f) ∧ sp_I M 103 16 = nI (tkS q n f) ∧ sp_L M 103 17 = tkW q n f
section Tok
variable {F n : Nat} {q : Nat → Nat} {M M' : sp_Mem}
theorem TXC_fr {A : List Nat} {B : List (Nat × Nat)} (hf : sp_fr A B M M') (h : TXC M q n) (hd : dj [95] [(94, 1)] A B = true) : TXC M' q n := ⟨h.1, (fr_B hf hd 94 1 (by decide)).trans h.2.1, fun i hi => by rw [fr_A hf hd 95 (by decide)]; exact h.2.2 i hi⟩
theorem TXR_fr {A : List Nat} {B : List (Nat × Nat)} (hf : sp_fr A B M M') (h : TXR M q n) (hd : dj [112] [(103, 13)] A B = true) : TXR M' q n := ⟨h.1, (fr_B hf hd 103 13 (by decide)).trans h.2.1, fun i hi => by rw [fr_A hf hd 112 (by decide)]; exact h.2.2 i hi⟩
theorem by_c (h : TXC M q n) {f : Nat} (hf : f ≤ n) : fX8_byteAt M (nI f) = some (if f < n then nI (q f) else -1) := by
  obtain ⟨h1, h2, h3⟩ := h
  unfold fX8_byteAt
  rw [if_neg (by rw [Int32.lt_iff_toInt_lt, nI_toInt (by omega)]; show ¬ ((f : Int) < 0); omega), h2]
  by_cases z : f < n
  · rw [if_neg (nI_ge z (by omega)), sp_ix_nI (show f < 400 by omega) (by omega), Option.bind_some, (h3 f z).1, if_pos z]
  · rw [if_pos (nI_le (by omega) (by omega)), if_neg z]
theorem skp_c {kx : sp_Mem → Option sp_Mem} : ∀ (m i kf : Nat) (M : sp_Mem), i + m = n → m < kf → TXC M q n → sp_I M 94 3 = nI i → ∃ M', fX8_toNext_l8 F kx kf M = kx M' ∧ sp_fr [] [(94, 3)] M M' ∧ sp_I M' 94 3 = nI (skp q n m i) := by
  intro m
  induction m with
  | zero =>
    intro i kf M hi hk h e3
    obtain ⟨kf, rfl⟩ : ∃ m, kf = m + 1 := ⟨kf - 1, by omega⟩
    refine ⟨M, ?_, sp_fr.refl _ _ _, e3⟩
    rw [fX8_toNext_l8, h.2.1, e3, if_pos (nI_le (by omega) (by have := h.1; omega))]
  | succ m ih =>
    intro i kf M hi hk h e3
    obtain ⟨kf, rfl⟩ : ∃ m, kf = m + 1 := ⟨kf - 1, by omega⟩
    have hn := h.1
    rw [fX8_toNext_l8, h.2.1, e3, if_neg (nI_ge (by omega) (by omega)), sp_ix_nI (show i < 400 by omega) (by omega), Option.bind_some, (h.2.2 i (by omega)).1, skp]
    by_cases z : q i = 32
    · have f1 : sp_fr [] [(94, 3)] M (sp_setI M 94 3 (nI (i + 1))) := sp_fr_I (Or.inr (by decide)) rfl
      obtain ⟨M', g1, g2, g3⟩ := ih (i + 1) kf _ (by omega) (by omega) (TXC_fr f1 h (by decide)) (I_eq _ _ _ _)
      refine ⟨M', ?_, f1.tr g2, ?_⟩
      · rw [if_pos ((srt_e _ (h.2.2 i (by omega)).2).2.2.2.2.2 z), nI_1]; exact g1
      · rw [if_pos ⟨by omega, z⟩]; exact g3
    · refine ⟨M, ?_, sp_fr.refl _ _ _, ?_⟩
      · rw [if_neg (fun w => z ((srt_e _ (h.2.2 i (by omega)).2).2.2.2.2.1 w))]
      · rw [if_neg (fun w => z w.2)]; exact e3
theorem ext_c {kx : sp_Mem → Option sp_Mem} {s : Nat} (hs : s < 4) : ∀ (m i kf : Nat) (M : sp_Mem), i + m = n → m < kf → TXC M q n → sp_I M 94 4 = nI i → sp_I M 94 2 = nI s → ∃ M', fX8_toNext_l94 F kx kf M = kx M' ∧ sp_fr [] [(94, 4)] M M' ∧ sp_I M' 94 4 = nI (ext q n s m i) := by
  intro m
  induction m with
  | zero =>
    intro i kf M hi hk h e3 e2
    obtain ⟨kf, rfl⟩ : ∃ m, kf = m + 1 := ⟨kf - 1, by omega⟩
    refine ⟨M, ?_, sp_fr.refl _ _ _, e3⟩
    rw [fX8_toNext_l94, h.2.1, e3, if_pos (nI_le (by omega) (by have := h.1; omega))]
  | succ m ih =>
    intro i kf M hi hk h e3 e2
    obtain ⟨kf, rfl⟩ : ∃ m, kf = m + 1 := ⟨kf - 1, by omega⟩
    have hn := h.1
    have hb := srt_e _ (h.2.2 i (by omega)).2
    rw [fX8_toNext_l94, h.2.1, e3, if_neg (nI_ge (by omega) (by omega)), sp_ix_nI (show i < 400 by omega) (by omega), Option.bind_some, (h.2.2 i (by omega)).1, hb.1, e2, ext]
    by_cases z : srt (q i) = s
    · have f1 : sp_fr [] [(94, 4)] M (sp_setI M 94 4 (nI (i + 1))) := sp_fr_I (Or.inr (by decide)) rfl
      obtain ⟨M', g1, g2, g3⟩ := ih (i + 1) kf _ (by omega) (by omega) (TXC_fr f1 h (by decide)) (I_eq _ _ _ _) ((I_nf _ _ _ (by decide)).trans e2)
      refine ⟨M', ?_, f1.tr g2, ?_⟩
      · rw [if_pos (by rw [z]), nI_1]; exact g1
      · rw [if_pos ⟨by omega, z⟩]; exact g3
    · refine ⟨M, ?_, sp_fr.refl _ _ _, ?_⟩
      · rw [if_neg (fun w => z ((nIe (by rcases hb.2.2.2.1 with h | h | h <;> omega) (by omega)).1 w))]
      · rw [if_neg (fun w => z w.2)]; exact e3
theorem ext_1 {s : Nat} : ∀ {m i : Nat}, i + (m + 1) = n → srt (q i) = s → ext q n s (m + 1) i = ext q n s m (i + 1) := by
  intro m i h z
  rw [ext, if_pos ⟨by omega, z⟩]
theorem next_c (hF : 1000 ≤ F) (h : TXC M q n) {t : Nat} (ht : t ≤ n) (e : sp_I M 94 4 = nI t) : ∃ M', fX8_toNext F M = some M' ∧ sp_fr [] [(94, 3), (94, 2), (94, 4)] M M' ∧ TXC M' q n ∧ TKC M' q n (tkF q n t) := by
  have hn := h.1
  have f0 : sp_fr [] [(94, 3)] M (sp_setI M 94 3 (sp_I M 94 4)) := sp_fr_I (Or.inr (by decide)) rfl
  obtain ⟨M1, e1, e2, e3⟩ := skp_c (F := F) (kx := fun M6 => fX8_toNext_j46 F M6) (n - t) t F _ (by omega) (by omega) (TXC_fr f0 h (by decide)) ((I_eq _ _ _ _).trans e)
  have e3 : sp_I M1 94 3 = nI (tkF q n t) := e3
  have hf := (tkF_b (q := q) ht).2
  generalize hg : tkF q n t = f at e3 hf ⊢
  have f1 := f0.tr e2
  have h1 := TXC_fr f1 h (by decide)
  let M2 := sp_setI M1 94 2 (nI (tkS q n f))
  let M3 := sp_setI M2 94 4 (sp_min (nI f + 1) (nI n))
  have f3 : sp_fr [] [(94, 3), (94, 2), (94, 4)] M M3 := ((f1.mono (by decide) (by decide)).tr (sp_fr_I (Or.inr (by decide)) rfl)).tr (sp_fr_I (Or.inr (by decide)) rfl)
  have h3 := TXC_fr f3 h (by decide)
  have a2 : sp_I M3 94 2 = nI (tkS q n f) := (I_nf _ _ _ (by decide)).trans (I_eq _ _ _ _)
  have a3 : sp_I M3 94 3 = nI f := (I_nf _ _ _ (by decide)).trans ((I_nf _ _ _ (by decide)).trans e3)
  have a4 : sp_I M3 94 4 = sp_min (nI f + 1) (nI n) := I_eq _ _ _ _
  have amin : f < n → sp_min (nI f + 1) (nI n) = nI (f + 1) := by
    intro z
    rw [nI_1]
    unfold sp_min
    rw [if_neg (by rw [nIlt (by omega) (by omega)]; omega)]
  have start : fX8_toNext F M = (if sp_I M3 94 2 = 1 then (fX8_toNext_l94 F (fun M15 => some M15) F M3) else (if sp_I M3 94 2 = 2 then (fX8_toNext_l94 F (fun M17 => some M17) F M3) else (some M3))) := by
    refine (show fX8_toNext F M = _ from e1).trans ?_
    unfold fX8_toNext_j46
    rw [e3, by_c h1 hf, Option.bind_some]
    have hso : fX8_sortOf (if f < n then nI (q f) else -1) = nI (tkS q n f) := by
      unfold tkS
      by_cases z : f < n
      · rw [if_pos z, if_pos z]; exact (srt_e _ (h.2.2 f z).2).1
      · rw [if_neg z, if_neg z]; rfl
    rw [hso]
    simp only [sp_do]
    rw [show sp_I (sp_setI M1 94 2 (nI (tkS q n f))) 94 3 = nI f from (I_nf _ _ _ (by decide)).trans e3, show sp_I (sp_setI M1 94 2 (nI (tkS q n f))) 94 1 = nI n from (I_nf _ _ _ (by decide)).trans h1.2.1]
  rw [start, a2]
  by_cases z : f < n
  · have hb := srt_e _ (h.2.2 f z).2
    have hS : tkS q n f = srt (q f) := if_pos z
    rw [amin z] at a4
    have run : (tkS q n f = 1 ∨ tkS q n f = 2) → ∃ M', fX8_toNext_l94 F (fun M15 => some M15) F M3 = some M' ∧ sp_fr [] [(94, 3), (94, 2), (94, 4)] M M' ∧ TXC M' q n ∧ TKC M' q n f := by
      intro hs
      obtain ⟨M4, g1, g2, g3⟩ := ext_c (F := F) (kx := fun M15 => some M15) (s := tkS q n f) (by omega) (n - (f + 1)) (f + 1) F M3 (by omega) (by omega) h3 a4 a2
      refine ⟨M4, g1, f3.tr (g2.mono (by decide) (by decide)), TXC_fr g2 h3 (by decide), hf, (g2.1 94 3 (by decide) (by decide)).trans a3, ?_, (g2.1 94 2 (by decide) (by decide)).trans a2⟩
      rw [g3]
      unfold tkT
      rw [if_neg (by omega), if_neg (by omega), show n - f = n - (f + 1) + 1 by omega, ext_1 (by omega) hS.symm]
    rcases hb.2.2.2.1 with w | w | w
    · rw [if_pos (by rw [hS, w]; rfl)]
      exact run (Or.inl (hS.trans w))
    · rw [if_neg (by rw [hS, w]; decide), if_pos (by rw [hS, w]; rfl)]
      exact run (Or.inr (hS.trans w))
    · rw [if_neg (by rw [hS, w]; decide), if_neg (by rw [hS, w]; decide)]
      refine ⟨M3, rfl, f3, h3, hf, a3, ?_, a2⟩
      rw [a4]
      unfold tkT
      rw [if_neg (by omega), if_pos (by omega)]
  · have hS : tkS q n f = 0 := if_neg z
    rw [if_neg (by rw [hS]; decide), if_neg (by rw [hS]; decide)]
    refine ⟨M3, rfl, f3, h3, hf, a3, ?_, a2⟩
    rw [a4]
    unfold tkT
    rw [if_pos hS, show n = f by omega, nI_1]
    unfold sp_min
    rw [if_pos (by rw [nIlt (by omega) (by omega)]; omega)]
end Tok
