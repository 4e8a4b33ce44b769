/-! ===== words, signs and numbers, on both sides ===== -/
def STR (o : Nat) (c : Nat → Nat) (len : Nat) : Prop := len < 100 ∧ sp_slen o = nI len ∧ sp_tlen.getD o 0 = len ∧ ∀ j, j < len → sp_chr o j = nI (c j) ∧ c j < 256
def bI (b : Bool) : Int32 := if b = true then 1 else 0
def oE (kx : Option Int32) (x : Option Nat) : Option Int32 := match x with
  | none => kx
  | some a => some (nI a)
section Word2
variable {F n f : Nat} {q : Nat → Nat} {M M' : sp_Mem}
theorem by_c2 (h : TXC M q n) {i : Nat} (hi : i < 2000) : fX8_byteAt M (nI i) = some (if i < n then nI (q i) else -1) := by
  obtain ⟨h1, h2, h3⟩ := h
  unfold fX8_byteAt
  rw [if_neg (by rw [Int32.lt_iff_toInt_lt, nI_toInt (by omega)]; show ¬ ((i : Int) < 0); omega), h2]
  by_cases z : i < n
  · rw [if_neg (nI_ge z (by omega)), sp_ix_nI (show i < 400 by omega) (by omega), Option.bind_some, (h3 i z).1, if_pos z]
  · rw [if_pos (nI_le (by omega) (by omega)), if_neg z]
theorem nI32 {b : Nat} (h : b < 256) : nI b = 32 ↔ b = 32 := (srt_e b h).2.2.2.2
theorem pl_c {kx : Option Int32} {o len : Nat} {c : Nat → Nat} (hS : STR o c len) (hT : TXC M q n) (hK : TKC M q n f) (hw : tkS q n f = 1) : ∀ (m k j : Nat) (ok : Bool) (i kf : Nat), i + m = len + 1 → m < kf → j ≤ i → k ≤ i → fX8_placeIn_l22 F M o kx kf (nI k) (nI j) (bI ok) (nI i) = oE kx (plq q n f (tkT q n f) c len m k j ok i) := by
  obtain ⟨hl, s1, s2, s3⟩ := hS
  obtain ⟨hf, k3, k4, k2⟩ := hK
  have hn := hT.1
  have htt := tkT_b (q := q) hf
  intro m
  induction m with
  | zero =>
    intro k j ok i kf hi hk hj hki
    obtain ⟨kf, rfl⟩ : ∃ m, kf = m + 1 := ⟨kf - 1, by omega⟩
    rw [fX8_placeIn_l22, s1, if_pos ((nIlt (by omega) (by omega)).2 (by omega))]
    rfl
  | succ m ih =>
    intro k j ok i kf hi hk hj hki
    obtain ⟨kf, rfl⟩ : ∃ m, kf = m + 1 := ⟨kf - 1, by omega⟩
    rw [fX8_placeIn_l22, s1, if_neg (by rw [nIlt (by omega) (by omega)]; omega), k2, hw, if_pos (show nI 1 = 1 from rfl), plq]
    have j96 : (i = len ∨ c i = 32) → fX8_placeIn_j96 F M o (fX8_placeIn_l22 F M o kx kf) kx (nI k) (nI j) (bI ok) (nI i) = oE kx (if ok = true ∧ j = tkT q n f - f then some k else plq q n f (tkT q n f) c len m (k + 1) 0 true (i + 1)) := by
      intro _
      have nxt := ih (k + 1) 0 true (i + 1) kf (by omega) (by omega) (by omega) (by omega)
      rw [show bI true = 1 from rfl] at nxt
      unfold fX8_placeIn_j96
      rw [nI_1, nI_1, show (0 : Int32) = nI 0 from rfl]
      cases ok with
      | false =>
        rw [if_pos (show bI false = nI 0 from rfl), if_neg (fun z => (by cases z.1))]
        exact nxt
      | true =>
        rw [if_neg (show ¬ bI true = nI 0 by decide), k4, k3, show nI (tkT q n f) - nI f = nI (tkT q n f - f) from nI_sub htt.1 (by omega)]
        by_cases z : j = tkT q n f - f
        · rw [if_pos (by rw [z]), if_pos ⟨rfl, z⟩]; rfl
        · rw [if_neg (by rw [nIe (by omega) (by omega)]; exact z), if_neg (fun y => z y.2)]
          exact nxt
    by_cases hi1 : i = len
    · rw [if_pos (nI_le (by omega) (by omega)), if_pos (Or.inl hi1)]
      exact j96 (Or.inl hi1)
    · have s3i := s3 i (by omega)
      rw [if_neg (nI_ge (by omega) (by omega)), s2, sp_ix_nI (show i < len by omega) (by omega), Option.bind_some, s3i.1]
      by_cases hc : c i = 32
      · rw [if_pos ((nI32 s3i.2).2 hc), if_pos (Or.inr hc)]
        exact j96 (Or.inr hc)
      · rw [if_neg (fun z => hc ((nI32 s3i.2).1 z)), if_neg (show ¬ (i = len ∨ c i = 32) from fun z => z.elim hi1 hc), nI_1, nI_1]
        cases ok with
        | false =>
          rw [if_pos (show bI false = 0 from rfl)]
          exact ih k (j + 1) false (i + 1) kf (by omega) (by omega) (by omega) (by omega)
        | true =>
          rw [if_neg (show ¬ bI true = 0 by decide), k3, show nI f + nI j = nI (f + j) from nI_add f j, by_c2 hT (by omega), Option.bind_some, Option.bind_some, s3i.1]
          have := ih k (j + 1) (true && (decide (f + j < n) && decide (q (f + j) = c i))) (i + 1) kf (by omega) (by omega) (by omega) (by omega)
          rw [← this]
          simp only [sp_do]
          congr 1
          by_cases z : f + j < n
          · have hb := (hT.2.2 (f + j) z).2
            rw [if_pos z]
            by_cases y : q (f + j) = c i
            · rw [if_pos (by rw [y]), decide_eq_true z, decide_eq_true y]; rfl
            · rw [if_neg (by rw [nIe (by omega) (by omega)]; exact y), decide_eq_true z, decide_eq_false y]; rfl
          · rw [if_neg z, if_neg (fun y => nI_m1 (show c i < 2147483648 by omega) y.symm), decide_eq_false z]; rfl
/-- which of the words the token is -/
def wdx (q : Nat → Nat) (n f : Nat) (cs : List Int64) : Option Nat := if tkS q n f = 1 then fnd (fun x => decide (tkW q n f = x)) 0 cs else none
theorem place_c (hF : 1000 ≤ F) {o len : Nat} {c : Nat → Nat} {cs : List Int64} (hS : STR o c len) (hc : ∀ w ∈ spl c len (len + 1) 0 0, w.2 ≤ 10 ∧ ∀ j, j < w.2 → 97 ≤ c (w.1 + j) ∧ c (w.1 + j) ≤ 122) (hcs : (spl c len (len + 1) 0 0).map (fun w => Int64.ofNat (cdN c w.1 w.2)) = cs) (hT : TXC M q n) (hK : TKC M q n f) : fX8_placeIn F M o = some (oN (wdx q n f cs)) := by
  unfold fX8_placeIn fX8_placeIn_j17 wdx
  by_cases hw : tkS q n f = 1
  · have hl := hS.1
    rw [hK.2.2.2, hw, if_pos (show nI 1 = 1 from rfl), if_pos rfl]
    have := pl_c (F := F) (kx := some (-1)) hS hT hK hw (len + 1) 0 0 true 0 F (by omega) (by omega) (by omega) (by omega)
    refine this.trans ?_
    have e := plq_e (q := q) (f := f) (c := c) (len := len) (tkT_b (q := q) hK.1).2 (len + 1) 0 0 0 true (by omega) (by omega) ⟨fun _ j hj => absurd hj (by omega), fun _ => rfl⟩
    rw [Nat.sub_self] at e
    rw [e, fnd_e hw _ _ hc, hcs]
    cases fnd (fun x => decide (tkW q n f = x)) 0 cs <;> rfl
  · have hs4 : tkS q n f < 4 := by
      unfold tkS
      split
      · rename_i z
        have := (srt_e _ (hT.2.2 f z).2).2.2.2.1
        omega
      · omega
    have n1 : ¬ sp_I M 94 2 = 1 := by rw [hK.2.2.2]; exact fun z => hw ((nIe (b := 1) (by omega) (by omega)).1 z)
    obtain ⟨F, rfl⟩ : ∃ m, F = m + 1 := ⟨F - 1, by omega⟩
    have hl := hS.1
    rw [if_neg n1, if_neg hw, fX8_placeIn_l22, hS.2.1, if_neg (show ¬ nI len < 0 by rw [Int32.lt_iff_toInt_lt, nI_toInt (by omega)]; show ¬ ((len : Int) < 0); omega), if_neg n1]
    rfl
theorem tkS4 (h : ∀ i, i < n → q i < 256) : tkS q n f < 4 := by
  unfold tkS
  split
  · rename_i z
    have := (srt_e _ (h f z)).2.2.2.1
    omega
  · omega
theorem isW_r (hT : TXR M q n) (hK : TKR M q n f) (a : Int64) : fX11_isWord M a = if tkS q n f = 1 ∧ tkW q n f = a then 1 else 0 := by
  have h4 := tkS4 (f := f) (fun i hi => (hT.2.2 i hi).2)
  unfold fX11_isWord
  rw [hK.2.2.2.1, hK.2.2.2.2]
  by_cases z : tkS q n f = 1
  · rw [if_pos (by rw [z]; rfl)]
    by_cases y : tkW q n f = a
    · rw [if_pos y, if_pos ⟨z, y⟩]
    · rw [if_neg y, if_neg (fun w => y w.2)]
  · rw [if_neg (show ¬ nI (tkS q n f) = 1 from fun w => z ((nIe (b := 1) (by omega) (by omega)).1 w)), if_neg (fun w => z w.1)]
theorem sgn_c (hT : TXC M q n) (hK : TKC M q n f) {b : Nat} (hb : b < 256) : fX8_isSign M (nI b) = some (if tkS q n f = 3 ∧ q f = b then 1 else 0) := by
  have hn := hT.1
  have h4 := tkS4 (f := f) (fun i hi => (hT.2.2 i hi).2)
  unfold fX8_isSign
  rw [hK.2.2.2, hK.2.1]
  by_cases z : tkS q n f = 3
  · have hfn : f < n := by
      unfold tkS at z
      by_cases y : f < n
      · exact y
      · rw [if_neg y] at z; omega
    have := (hT.2.2 f hfn).2
    rw [if_pos (by rw [z]; rfl), by_c2 hT (by omega), Option.bind_some, if_pos hfn]
    by_cases y : q f = b
    · rw [if_pos (by rw [y]), if_pos ⟨z, y⟩]
    · rw [if_neg (by rw [nIe (by omega) (by omega)]; exact y), if_neg (fun w => y w.2)]
  · rw [if_neg (show ¬ nI (tkS q n f) = 3 from fun w => z ((nIe (b := 3) (by omega) (by omega)).1 w)), if_neg (fun w => z w.1)]
theorem sgn_r (hT : TXR M q n) (hK : TKR M q n f) {b : Nat} (hb : b < 256) : fX11_isSign M (nI b) = if tkS q n f = 3 ∧ q f = b then 1 else 0 := by
  have h4 := tkS4 (f := f) (fun i hi => (hT.2.2 i hi).2)
  unfold fX11_isSign
  rw [hK.2.2.2.1, hK.2.2.2.2]
  by_cases z : tkS q n f = 3
  · have hfn : f < n := by
      unfold tkS at z
      by_cases y : f < n
      · exact y
      · rw [if_neg y] at z; omega
    have h2 := (hT.2.2 f hfn).2
    have hW : tkW q n f = Int64.ofNat (q f) := by
      unfold tkW
      rw [z, if_neg (by decide), if_neg (by decide), if_pos rfl, o64 _ h2]
    rw [if_pos (by rw [z]; rfl), hW, o64 _ hb]
    by_cases y : q f = b
    · rw [if_pos (by rw [y]), if_pos ⟨z, y⟩]
    · rw [if_neg (fun w => y (n64 (by omega) (by omega) w)), if_neg (fun w => y w.2)]
  · rw [if_neg (show ¬ nI (tkS q n f) = 3 from fun w => z ((nIe (b := 3) (by omega) (by omega)).1 w)), if_neg (fun w => z w.1)]
/-- the number that digits write -/
def nbN (q : Nat → Nat) (f : Nat) : Nat → Nat
  | 0 => 0
  | m + 1 => 10 * nbN q f m + (q (f + m) - 48)
theorem srt_2 {b : Nat} (h : srt b = 2) : 48 ≤ b ∧ b ≤ 57 := by
  unfold srt at h
  split at h
  · omega
  · split at h
    · assumption
    · omega
theorem num_l {lim : Nat} (hl : lim ≤ 1000) {t : Nat} (hT : TXC M q n) (ht : t ≤ n) (h4 : sp_I M 94 4 = nI t) (hq : ∀ j, f ≤ j → j < t → 48 ≤ q j ∧ q j ≤ 57) : ∀ (m i kf : Nat), i + m = t → m < kf → f ≤ i → fX8_numberTo_l17 F M (fun b7 => some b7) kf (nI lim) (nI (min (nbN q f (i - f)) (lim + 1))) (nI i) = some (nI (min (nbN q f (t - f)) (lim + 1))) := by
  have hn := hT.1
  intro m
  induction m with
  | zero =>
    intro i kf hi hk hfi
    obtain ⟨kf, rfl⟩ : ∃ m, kf = m + 1 := ⟨kf - 1, by omega⟩
    rw [fX8_numberTo_l17, h4, if_pos (nI_le (by omega) (by omega)), show i = t by omega]
  | succ m ih =>
    intro i kf hi hk hfi
    obtain ⟨kf, rfl⟩ : ∃ m, kf = m + 1 := ⟨kf - 1, by omega⟩
    have hd := hq i (by omega) (by omega)
    rw [fX8_numberTo_l17, h4, if_neg (nI_ge (by omega) (by omega)), by_c2 hT (by omega), Option.bind_some, if_pos (by omega)]
    simp only [sp_do]
    have e : sp_min (nI (min (nbN q f (i - f)) (lim + 1)) * 10 + nI (q i) - 48) (nI lim + 1) = nI (min (nbN q f (i + 1 - f)) (lim + 1)) := by
      have hm : min (nbN q f (i - f)) (lim + 1) ≤ lim + 1 := Nat.min_le_right _ _
      rw [show i + 1 - f = i - f + 1 by omega, nbN, show f + (i - f) = i by omega]
      generalize hg : min (nbN q f (i - f)) (lim + 1) = a at hm
      rw [show nI a * 10 = nI (a * 10) from nI_mul a 10, show nI (a * 10) + nI (q i) = nI (a * 10 + q i) from nI_add _ _, show nI (a * 10 + q i) - 48 = nI (a * 10 + q i - 48) from nI_sub (b := 48) (by omega) (by omega), nI_1]
      unfold sp_min
      by_cases z : lim + 1 < a * 10 + q i - 48
      · rw [if_pos ((nIlt (by omega) (by omega)).2 z)]
        congr 1
        omega
      · rw [if_neg (fun w => z ((nIlt (by omega) (by omega)).1 w))]
        congr 1
        omega
    rw [e, nI_1]
    exact ih (i + 1) kf (by omega) (by omega) (by omega)
theorem num_c (hF : 1000 ≤ F) {lim : Nat} (hl : lim ≤ 1000) (hT : TXC M q n) (hK : TKC M q n f) : fX8_numberTo F M (nI lim) = some (if tkS q n f = 2 then nI (min (nbN q f (tkT q n f - f)) (lim + 1)) else -1) := by
  have hn := hT.1
  have h4 := tkS4 (f := f) (fun i hi => (hT.2.2 i hi).2)
  unfold fX8_numberTo
  rw [hK.2.2.2]
  by_cases z : tkS q n f = 2
  · have hTT : tkT q n f = ext q n 2 (n - f) f := by unfold tkT; rw [z, if_neg (by decide), if_neg (by decide)]
    have hb := tkT_b (q := q) hK.1
    rw [if_pos (by rw [z]; rfl), if_pos z]
    simp only [sp_do]
    rw [hK.2.1]
    have := num_l (F := F) (f := f) (lim := lim) hl hT hb.2 hK.2.2.1 (fun j a b => srt_2 (ext_a (n := n) (n - f) f j a (by rw [← hTT]; exact b))) (tkT q n f - f) f F (by omega) (by omega) (by omega)
    rw [Nat.sub_self] at this
    rw [← this]
    rw [show min (nbN q f 0) (lim + 1) = 0 from Nat.zero_min _]
    rfl
  · rw [if_neg (show ¬ nI (tkS q n f) = 2 from fun w => z ((nIe (b := 2) (by omega) (by omega)).1 w)), if_neg z]
theorem nmb_e {t : Nat} (hq : ∀ j, f ≤ j → j < t → 48 ≤ q j ∧ q j ≤ 57) : ∀ (m i a : Nat), i + m = t → f ≤ i → ((a = nbN q f (i - f) ∧ a ≤ 10000009) ∨ (1000000 < a ∧ a ≤ 10000009 ∧ 1000000 < nbN q f (i - f))) → ∃ b, nmb q m i (Int64.ofNat a) = Int64.ofNat b ∧ ((b = nbN q f (t - f) ∧ b ≤ 10000009) ∨ (1000000 < b ∧ b ≤ 10000009 ∧ 1000000 < nbN q f (t - f)))
  | 0, i, a, hi, hfi, h => ⟨a, rfl, by rw [show t = i by omega]; exact h⟩
  | m + 1, i, a, hi, hfi, h => by
    have hd := hq i (by omega) (by omega)
    have hN : nbN q f (i + 1 - f) = 10 * nbN q f (i - f) + (q i - 48) := by rw [show i + 1 - f = i - f + 1 by omega, nbN, show f + (i - f) = i by omega]
    rw [nmb]
    have ha : a ≤ 10000009 := by omega
    have hle : Int64.ofNat a ≤ 1000000 ↔ a ≤ 1000000 := by
      rw [Int64.le_iff_toInt_le, Int64.toInt_ofNat_of_lt (by omega)]
      have : (1000000 : Int64).toInt = 1000000 := rfl
      omega
    by_cases z : a ≤ 1000000
    · rw [if_pos (hle.2 z), o64 _ (by omega)]
      have e : Int64.ofNat a * 10 + Int64.ofNat (q i) - 48 = Int64.ofNat (10 * a + (q i - 48)) := by
        rw [Int64.ofNat_add, Int64.ofNat_mul, show q i = q i - 48 + 48 by omega, Int64.ofNat_add, show q i - 48 + 48 - 48 = q i - 48 by omega, ← Int64.add_assoc, show Int64.ofNat 48 = 48 from rfl, Int64.add_sub_cancel, Int64.mul_comm]
        rfl
      rw [e]
      exact nmb_e hq m (i + 1) _ (by omega) (by omega) (by rw [hN]; omega)
    · rw [if_neg (fun w => z (hle.1 w))]
      exact nmb_e hq m (i + 1) _ (by omega) (by omega) (by rw [hN]; omega)
/-- what the reference has of a number -/
theorem num_r (hT : TXR M q n) (hK : TKR M q n f) (z : tkS q n f = 2) : ∃ b, sp_L M 103 17 = Int64.ofNat b ∧ ((b = nbN q f (tkT q n f - f) ∧ b ≤ 10000009) ∨ (1000000 < b ∧ b ≤ 10000009 ∧ 1000000 < nbN q f (tkT q n f - f))) := by
  have hTT : tkT q n f = ext q n 2 (n - f) f := by unfold tkT; rw [z, if_neg (by decide), if_neg (by decide)]
  have hb := tkT_b (q := q) hK.1
  obtain ⟨b, e1, e2⟩ := nmb_e (q := q) (f := f) (t := tkT q n f) (fun j a b => srt_2 (ext_a (n := n) (n - f) f j a (by rw [← hTT]; exact b))) (tkT q n f - f) f 0 (by omega) (by omega) (Or.inl ⟨by rw [Nat.sub_self]; rfl, by omega⟩)
  refine ⟨b, ?_, e2⟩
  rw [hK.2.2.2.2]
  unfold tkW
  rw [if_neg (by omega), if_pos z]
  exact e1
end Word2
