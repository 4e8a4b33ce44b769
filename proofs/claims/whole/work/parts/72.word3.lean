/-! ===== the words themselves ===== -/
def chs (l : List Nat) (j : Nat) : Nat := l.getD j 0
def wl_0 : List Nat := [103, 111, 101, 115, 32, 98, 117, 114, 110, 115, 32, 115, 104, 117, 110, 115, 32, 98, 97, 114, 115]
def cs_0 : List Int64 := [244915, 2804179, 20207059, 67155]
def wl_1 : List Nat := [105, 102]
def cs_1 : List Int64 := [294]
def wl_2 : List Nat := [99, 97, 108, 108, 32, 119, 101, 116, 32, 119, 97, 108, 107, 32, 112, 97, 115, 115]
def cs_2 : List Int64 := [99724, 23732, 755083, 525939]
def wl_3 : List Nat := [98, 121]
def cs_3 : List Int64 := [89]
def wl_4 : List Nat := [116, 111]
def cs_4 : List Int64 := [655]
def wl_5 : List Nat := [116, 105, 109, 101, 115]
def cs_5 : List Int64 := [21279923]
def wl_6 : List Nat := [110, 111, 116]
def cs_6 : List Int64 := [14836]
def wl_7 : List Nat := [109, 105, 110, 117, 116, 101, 32, 100, 111, 110, 101, 32, 108, 97, 116, 101, 115, 116, 32, 108, 111, 111, 115, 101, 32, 104, 101, 97, 116, 32, 99, 101, 108, 108]
def cs_7 : List Int64 := [446125701, 146885, 404362868, 13090405, 267316, 103820]
def wl_8 : List Nat := [115, 112, 97, 114, 107, 32, 104, 101, 97, 116, 32, 110, 97, 109, 101, 32, 120, 32, 121, 32, 107, 105, 110, 100, 32, 102, 97, 114, 32, 112, 101, 114, 115, 111, 110, 32, 109, 105, 110, 117, 116, 101, 32, 109, 111, 111, 100]
def cs_8 : List Int64 := [20448843, 267316, 460197, 24, 25, 370116, 6194, 542723566, 446125701, 441828]
def wl_9 : List Nat := [97, 110, 100, 32, 111, 114]
def cs_9 : List Int64 := [1476, 498]
theorem str_0 : STR 0 (chs wl_0) 21 := ⟨by decide, by decide +kernel, by decide +kernel, by decide +kernel⟩
theorem spc_0 : (∀ w ∈ spl (chs wl_0) 21 (21 + 1) 0 0, w.2 ≤ 10 ∧ ∀ j, j < w.2 → 97 ≤ chs wl_0 (w.1 + j) ∧ chs wl_0 (w.1 + j) ≤ 122) ∧ (spl (chs wl_0) 21 (21 + 1) 0 0).map (fun w => Int64.ofNat (cdN (chs wl_0) w.1 w.2)) = cs_0 := by decide +kernel
theorem plc_0 {F n f : Nat} {q : Nat → Nat} {M : sp_Mem} (hF : 1000 ≤ F) (hT : TXC M q n) (hK : TKC M q n f) : fX8_placeIn F M 0 = some (oN (wdx q n f cs_0)) := place_c hF str_0 spc_0.1 spc_0.2 hT hK
theorem str_1 : STR 1 (chs wl_1) 2 := ⟨by decide, by decide +kernel, by decide +kernel, by decide +kernel⟩
theorem spc_1 : (∀ w ∈ spl (chs wl_1) 2 (2 + 1) 0 0, w.2 ≤ 10 ∧ ∀ j, j < w.2 → 97 ≤ chs wl_1 (w.1 + j) ∧ chs wl_1 (w.1 + j) ≤ 122) ∧ (spl (chs wl_1) 2 (2 + 1) 0 0).map (fun w => Int64.ofNat (cdN (chs wl_1) w.1 w.2)) = cs_1 := by decide +kernel
theorem plc_1 {F n f : Nat} {q : Nat → Nat} {M : sp_Mem} (hF : 1000 ≤ F) (hT : TXC M q n) (hK : TKC M q n f) : fX8_placeIn F M 1 = some (oN (wdx q n f cs_1)) := place_c hF str_1 spc_1.1 spc_1.2 hT hK
theorem str_2 : STR 2 (chs wl_2) 18 := ⟨by decide, by decide +kernel, by decide +kernel, by decide +kernel⟩
theorem spc_2 : (∀ w ∈ spl (chs wl_2) 18 (18 + 1) 0 0, w.2 ≤ 10 ∧ ∀ j, j < w.2 → 97 ≤ chs wl_2 (w.1 + j) ∧ chs wl_2 (w.1 + j) ≤ 122) ∧ (spl (chs wl_2) 18 (18 + 1) 0 0).map (fun w => Int64.ofNat (cdN (chs wl_2) w.1 w.2)) = cs_2 := by decide +kernel
theorem plc_2 {F n f : Nat} {q : Nat → Nat} {M : sp_Mem} (hF : 1000 ≤ F) (hT : TXC M q n) (hK : TKC M q n f) : fX8_placeIn F M 2 = some (oN (wdx q n f cs_2)) := place_c hF str_2 spc_2.1 spc_2.2 hT hK
theorem str_3 : STR 3 (chs wl_3) 2 := ⟨by decide, by decide +kernel, by decide +kernel, by decide +kernel⟩
theorem spc_3 : (∀ w ∈ spl (chs wl_3) 2 (2 + 1) 0 0, w.2 ≤ 10 ∧ ∀ j, j < w.2 → 97 ≤ chs wl_3 (w.1 + j) ∧ chs wl_3 (w.1 + j) ≤ 122) ∧ (spl (chs wl_3) 2 (2 + 1) 0 0).map (fun w => Int64.ofNat (cdN (chs wl_3) w.1 w.2)) = cs_3 := by decide +kernel
theorem plc_3 {F n f : Nat} {q : Nat → Nat} {M : sp_Mem} (hF : 1000 ≤ F) (hT : TXC M q n) (hK : TKC M q n f) : fX8_placeIn F M 3 = some (oN (wdx q n f cs_3)) := place_c hF str_3 spc_3.1 spc_3.2 hT hK
theorem str_4 : STR 4 (chs wl_4) 2 := ⟨by decide, by decide +kernel, by decide +kernel, by decide +kernel⟩
theorem spc_4 : (∀ w ∈ spl (chs wl_4) 2 (2 + 1) 0 0, w.2 ≤ 10 ∧ ∀ j, j < w.2 → 97 ≤ chs wl_4 (w.1 + j) ∧ chs wl_4 (w.1 + j) ≤ 122) ∧ (spl (chs wl_4) 2 (2 + 1) 0 0).map (fun w => Int64.ofNat (cdN (chs wl_4) w.1 w.2)) = cs_4 := by decide +kernel
theorem plc_4 {F n f : Nat} {q : Nat → Nat} {M : sp_Mem} (hF : 1000 ≤ F) (hT : TXC M q n) (hK : TKC M q n f) : fX8_placeIn F M 4 = some (oN (wdx q n f cs_4)) := place_c hF str_4 spc_4.1 spc_4.2 hT hK
theorem str_5 : STR 5 (chs wl_5) 5 := ⟨by decide, by decide +kernel, by decide +kernel, by decide +kernel⟩
theorem spc_5 : (∀ w ∈ spl (chs wl_5) 5 (5 + 1) 0 0, w.2 ≤ 10 ∧ ∀ j, j < w.2 → 97 ≤ chs wl_5 (w.1 + j) ∧ chs wl_5 (w.1 + j) ≤ 122) ∧ (spl (chs wl_5) 5 (5 + 1) 0 0).map (fun w => Int64.ofNat (cdN (chs wl_5) w.1 w.2)) = cs_5 := by decide +kernel
theorem plc_5 {F n f : Nat} {q : Nat → Nat} {M : sp_Mem} (hF : 1000 ≤ F) (hT : TXC M q n) (hK : TKC M q n f) : fX8_placeIn F M 5 = some (oN (wdx q n f cs_5)) := place_c hF str_5 spc_5.1 spc_5.2 hT hK
theorem str_6 : STR 6 (chs wl_6) 3 := ⟨by decide, by decide +kernel, by decide +kernel, by decide +kernel⟩
theorem spc_6 : (∀ w ∈ spl (chs wl_6) 3 (3 + 1) 0 0, w.2 ≤ 10 ∧ ∀ j, j < w.2 → 97 ≤ chs wl_6 (w.1 + j) ∧ chs wl_6 (w.1 + j) ≤ 122) ∧ (spl (chs wl_6) 3 (3 + 1) 0 0).map (fun w => Int64.ofNat (cdN (chs wl_6) w.1 w.2)) = cs_6 := by decide +kernel
theorem plc_6 {F n f : Nat} {q : Nat → Nat} {M : sp_Mem} (hF : 1000 ≤ F) (hT : TXC M q n) (hK : TKC M q n f) : fX8_placeIn F M 6 = some (oN (wdx q n f cs_6)) := place_c hF str_6 spc_6.1 spc_6.2 hT hK
theorem str_7 : STR 7 (chs wl_7) 34 := ⟨by decide, by decide +kernel, by decide +kernel, by decide +kernel⟩
theorem spc_7 : (∀ w ∈ spl (chs wl_7) 34 (34 + 1) 0 0, w.2 ≤ 10 ∧ ∀ j, j < w.2 → 97 ≤ chs wl_7 (w.1 + j) ∧ chs wl_7 (w.1 + j) ≤ 122) ∧ (spl (chs wl_7) 34 (34 + 1) 0 0).map (fun w => Int64.ofNat (cdN (chs wl_7) w.1 w.2)) = cs_7 := by decide +kernel
theorem plc_7 {F n f : Nat} {q : Nat → Nat} {M : sp_Mem} (hF : 1000 ≤ F) (hT : TXC M q n) (hK : TKC M q n f) : fX8_placeIn F M 7 = some (oN (wdx q n f cs_7)) := place_c hF str_7 spc_7.1 spc_7.2 hT hK
theorem str_8 : STR 8 (chs wl_8) 47 := ⟨by decide, by decide +kernel, by decide +kernel, by decide +kernel⟩
theorem spc_8 : (∀ w ∈ spl (chs wl_8) 47 (47 + 1) 0 0, w.2 ≤ 10 ∧ ∀ j, j < w.2 → 97 ≤ chs wl_8 (w.1 + j) ∧ chs wl_8 (w.1 + j) ≤ 122) ∧ (spl (chs wl_8) 47 (47 + 1) 0 0).map (fun w => Int64.ofNat (cdN (chs wl_8) w.1 w.2)) = cs_8 := by decide +kernel
theorem plc_8 {F n f : Nat} {q : Nat → Nat} {M : sp_Mem} (hF : 1000 ≤ F) (hT : TXC M q n) (hK : TKC M q n f) : fX8_placeIn F M 8 = some (oN (wdx q n f cs_8)) := place_c hF str_8 spc_8.1 spc_8.2 hT hK
theorem str_9 : STR 9 (chs wl_9) 6 := ⟨by decide, by decide +kernel, by decide +kernel, by decide +kernel⟩
theorem spc_9 : (∀ w ∈ spl (chs wl_9) 6 (6 + 1) 0 0, w.2 ≤ 10 ∧ ∀ j, j < w.2 → 97 ≤ chs wl_9 (w.1 + j) ∧ chs wl_9 (w.1 + j) ≤ 122) ∧ (spl (chs wl_9) 6 (6 + 1) 0 0).map (fun w => Int64.ofNat (cdN (chs wl_9) w.1 w.2)) = cs_9 := by decide +kernel
theorem plc_9 {F n f : Nat} {q : Nat → Nat} {M : sp_Mem} (hF : 1000 ≤ F) (hT : TXC M q n) (hK : TKC M q n f) : fX8_placeIn F M 9 = some (oN (wdx q n f cs_9)) := place_c hF str_9 spc_9.1 spc_9.2 hT hK
/-- the reference's search: the last that fits -/
def lsl (P : Int64 → Bool) (d : Nat) : List Int64 → Nat → Int32 → Int32
  | [], _, a => a
  | x :: xs, i, a => lsl P d xs (i + 1) (if P x = true then nI (i + d) else a)
def oD (d : Nat) (a : Int32) (x : Option Nat) : Int32 := match x with
  | none => a
  | some k => nI (k + d)
theorem lsl_n {P : Int64 → Bool} {d : Nat} : ∀ (l : List Int64) (i : Nat) (a : Int32), (∀ x ∈ l, P x = false) → lsl P d l i a = a
  | [], _, _, _ => rfl
  | x :: xs, i, a, h => by
    rw [lsl, h x (by simp), if_neg (by decide)]
    exact lsl_n xs (i + 1) a (fun y hy => h y (by simp [hy]))
theorem lsl_e {P : Int64 → Bool} {d : Nat} (hP : ∀ x y, P x = true → P y = true → x = y) : ∀ (l : List Int64) (i : Nat) (a : Int32), l.Nodup → lsl P d l i a = oD d a (fnd P i l)
  | [], _, _, _ => rfl
  | x :: xs, i, a, h => by
    obtain ⟨h1, h2⟩ := List.nodup_cons.1 h
    rw [lsl, fnd]
    by_cases z : P x = true
    · rw [if_pos z, if_pos z, lsl_n xs _ _ (fun y hy => by
        cases w : P y
        · rfl
        · exact (h1 (by rw [hP x y z w]; exact hy)).elim)]
      rfl
    · rw [if_neg z, if_neg z]
      exact lsl_e hP xs (i + 1) a h2
def isP (q : Nat → Nat) (n f : Nat) (x : Int64) : Bool := decide (tkS q n f = 1 ∧ tkW q n f = x)
theorem fnd_no {P : Int64 → Bool} (h : ∀ x, P x = false) : ∀ (l : List Int64) (k : Nat), fnd P k l = none
  | [], _ => rfl
  | x :: xs, k => by rw [fnd, h, if_neg (by decide)]; exact fnd_no h xs (k + 1)
theorem wdx_e {q : Nat → Nat} {n f : Nat} (cs : List Int64) : wdx q n f cs = fnd (isP q n f) 0 cs := by
  unfold wdx
  by_cases h : tkS q n f = 1
  · rw [if_pos h]
    congr 1
    funext x
    unfold isP
    simp [h]
  · rw [if_neg h, fnd_no]
    intro x
    unfold isP
    exact decide_eq_false (fun z => h z.1)
theorem isP_u {q : Nat → Nat} {n f : Nat} : ∀ x y, isP q n f x = true → isP q n f y = true → x = y := by
  intro x y h1 h2
  unfold isP at h1 h2
  rw [decide_eq_true_iff] at h1 h2
  exact h1.2.symm.trans h2.2
theorem isWb {F n f : Nat} {q : Nat → Nat} {M : sp_Mem} (hT : TXR M q n) (hK : TKR M q n f) (a : Int64) : (fX11_isWord M a = 0) ↔ ¬ isP q n f a = true := by
  rw [isW_r hT hK]
  unfold isP
  rw [decide_eq_true_iff]
  by_cases z : tkS q n f = 1 ∧ tkW q n f = a
  · rw [if_pos z]; exact ⟨fun w => absurd w (by decide), fun w => (w z).elim⟩
  · rw [if_neg z]; exact ⟨fun _ => z, fun _ => rfl⟩
theorem pt_l {F n f : Nat} {q : Nat → Nat} {M : sp_Mem} {kx : Int32 → Option Int32} (hT : TXR M q n) (hK : TKR M q n f) : ∀ (l : List Int64) (i kf : Nat) (a : Int32), i + l.length = 10 → l.length < kf → (∀ j, j < l.length → sp_L M 118 (i + j) = l.getD j 0) → fX11_partAt_l4 F M kx kf a (nI i) = kx (lsl (isP q n f) 1 l i a) := by
  intro l
  induction l with
  | nil =>
    intro i kf a hi hk hl
    obtain ⟨kf, rfl⟩ : ∃ m, kf = m + 1 := ⟨kf - 1, by omega⟩
    rw [fX11_partAt_l4, show i = 10 from hi, if_pos (by decide)]
    rfl
  | cons x xs ih =>
    intro i kf a hi hk hl
    obtain ⟨kf, rfl⟩ : ∃ m, kf = m + 1 := ⟨kf - 1, by omega⟩
    rw [List.length_cons] at hi hk
    have h0 : sp_L M 118 i = x := hl 0 (by simp)
    rw [fX11_partAt_l4, if_neg ((show ∀ k, k < 10 → ¬ (10 : Int32) ≤ nI k by decide +kernel) i (by omega)), sp_ix_nI (show i < 10 by omega) (by omega), Option.bind_some, h0, nI_1, lsl]
    simp only [sp_do]
    rw [ih (i + 1) kf _ (by omega) (by omega) (fun j hj => by
      have := hl (j + 1) (by simp; omega)
      rw [show i + 1 + j = i + (j + 1) by omega, this]
      rfl)]
    congr 2
    by_cases z : isP q n f x = true
    · rw [if_neg (fun w => ((isWb (F := F) hT hK x).1 w) z), if_pos z]
    · rw [if_pos ((isWb (F := F) hT hK x).2 z), if_neg z]
theorem opt_l {F n f : Nat} {q : Nat → Nat} {M : sp_Mem} {kx : Int32 → Option Int32} (hT : TXR M q n) (hK : TKR M q n f) : ∀ (l : List Int64) (i kf : Nat) (a : Int32), i + l.length = 6 → l.length < kf → (∀ j, j < l.length → sp_L M 119 (i + j) = l.getD j 0) → fX11_orderPartAt_l4 F M kx kf a (nI i) = kx (lsl (isP q n f) 1 l i a) := by
  intro l
  induction l with
  | nil =>
    intro i kf a hi hk hl
    obtain ⟨kf, rfl⟩ : ∃ m, kf = m + 1 := ⟨kf - 1, by omega⟩
    rw [fX11_orderPartAt_l4, show i = 6 from hi, if_pos (by decide)]
    rfl
  | cons x xs ih =>
    intro i kf a hi hk hl
    obtain ⟨kf, rfl⟩ : ∃ m, kf = m + 1 := ⟨kf - 1, by omega⟩
    rw [List.length_cons] at hi hk
    have h0 : sp_L M 119 i = x := hl 0 (by simp)
    rw [fX11_orderPartAt_l4, if_neg ((show ∀ k, k < 6 → ¬ (6 : Int32) ≤ nI k by decide +kernel) i (by omega)), sp_ix_nI (show i < 6 by omega) (by omega), Option.bind_some, h0, nI_1, lsl]
    simp only [sp_do]
    rw [ih (i + 1) kf _ (by omega) (by omega) (fun j hj => by
      have := hl (j + 1) (by simp; omega)
      rw [show i + 1 + j = i + (j + 1) by omega, this]
      rfl)]
    congr 2
    by_cases z : isP q n f x = true
    · rw [if_neg (fun w => ((isWb (F := F) hT hK x).1 w) z), if_pos z]
    · rw [if_pos ((isWb (F := F) hT hK x).2 z), if_neg z]
theorem lwv_l {F n f : Nat} {q : Nat → Nat} {M : sp_Mem} {kx : Int32 → sp_Mem → Option sp_Mem} (hT : TXR M q n) (hK : TKR M q n f) : ∀ (l : List Int64) (i kf : Nat) (a : Int32), i + l.length = 4 → l.length < kf → (∀ j, j < l.length → sp_L M 120 (i + j) = l.getD j 0) → fX11_readLaw_l4 F kx kf a (nI i) M = kx (lsl (isP q n f) 0 l i a) M := by
  intro l
  induction l with
  | nil =>
    intro i kf a hi hk hl
    obtain ⟨kf, rfl⟩ : ∃ m, kf = m + 1 := ⟨kf - 1, by omega⟩
    rw [fX11_readLaw_l4, show i = 4 from hi, if_pos (by decide)]
    rfl
  | cons x xs ih =>
    intro i kf a hi hk hl
    obtain ⟨kf, rfl⟩ : ∃ m, kf = m + 1 := ⟨kf - 1, by omega⟩
    rw [List.length_cons] at hi hk
    have h0 : sp_L M 120 i = x := hl 0 (by simp)
    rw [fX11_readLaw_l4, if_neg ((show ∀ k, k < 4 → ¬ (4 : Int32) ≤ nI k by decide +kernel) i (by omega)), sp_ix_nI (show i < 4 by omega) (by omega), Option.bind_some, h0, nI_1, lsl]
    simp only [sp_do]
    rw [ih (i + 1) kf _ (by omega) (by omega) (fun j hj => by
      have := hl (j + 1) (by simp; omega)
      rw [show i + 1 + j = i + (j + 1) by omega, this]
      rfl)]
    congr 2
    by_cases z : isP q n f x = true
    · rw [if_neg (fun w => ((isWb (F := F) hT hK x).1 w) z), if_pos z]; rfl
    · rw [if_pos ((isWb (F := F) hT hK x).2 z), if_neg z]
theorem c118 : ∀ j, j < 10 → sp_L mm_311 118 j = cs_8.getD j 0 := by decide +kernel
theorem c119 : ∀ j, j < 6 → sp_L mm_311 119 j = cs_7.getD j 0 := by decide +kernel
theorem c120 : ∀ j, j < 4 → sp_L mm_311 120 j = cs_0.getD j 0 := by decide +kernel
theorem part_r {F n f : Nat} {q : Nat → Nat} {M : sp_Mem} (hF : 1000 ≤ F) (hT : TXR M q n) (hK : TKR M q n f) (hC : i_C M) : fX11_partAt F M = some (oD 1 (-1) (wdx q n f cs_8)) := by
  rw [wdx_e, ← lsl_e isP_u cs_8 0 (-1) (by decide +kernel)]
  exact pt_l (F := F) (kx := fun b6 => some b6) hT hK cs_8 0 F (-1) rfl (by show 10 < F; omega) (fun j hj => by
    have hj : j < 10 := hj
    rw [Nat.zero_add, hC.1 j hj, c118 j hj])
theorem opart_r {F n f : Nat} {q : Nat → Nat} {M : sp_Mem} (hF : 1000 ≤ F) (hT : TXR M q n) (hK : TKR M q n f) (hC : i_C M) : fX11_orderPartAt F M = some (oD 1 (-1) (wdx q n f cs_7)) := by
  rw [wdx_e, ← lsl_e isP_u cs_7 0 (-1) (by decide +kernel)]
  exact opt_l (F := F) (kx := fun b6 => some b6) hT hK cs_7 0 F (-1) rfl (by show 6 < F; omega) (fun j hj => by
    have hj : j < 6 := hj
    rw [Nat.zero_add, hC.2.1 j hj, c119 j hj])
theorem verb_r {F n f : Nat} {q : Nat → Nat} {M : sp_Mem} {kx : Int32 → sp_Mem → Option sp_Mem} (hF : 1000 ≤ F) (hT : TXR M q n) (hK : TKR M q n f) (hC : i_C M) : fX11_readLaw_l4 F kx F (-1) 0 M = kx (oD 0 (-1) (wdx q n f cs_0)) M := by
  rw [wdx_e, ← lsl_e isP_u cs_0 0 (-1) (by decide +kernel)]
  exact lwv_l (F := F) (kx := kx) hT hK cs_0 0 F (-1) rfl (by show 4 < F; omega) (fun j hj => by
    have hj : j < 4 := hj
    rw [Nat.zero_add, hC.2.2.1 j hj, c120 j hj])
