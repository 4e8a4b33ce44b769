/-! ===== words ===== -/
def cdN (c : Nat → Nat) (f : Nat) : Nat → Nat
  | 0 => 0
  | m + 1 => 32 * cdN c f m + (c (f + m) - 96)
/-- the token from f to t is the word of c that begins at w.1 and has w.2 letters -/
def WM (q : Nat → Nat) (f t : Nat) (c : Nat → Nat) (w : Nat × Nat) : Prop := t - f = w.2 ∧ ∀ j, j < w.2 → q (f + j) = c (w.1 + j)
def wmb (q : Nat → Nat) (f t : Nat) (c : Nat → Nat) (w : Nat × Nat) : Bool := decide (t - f = w.2 ∧ ∀ j, j < w.2 → q (f + j) = c (w.1 + j))
theorem wmb_e {q : Nat → Nat} {f t : Nat} {c : Nat → Nat} {w : Nat × Nat} : wmb q f t c w = true ↔ WM q f t c w := decide_eq_true_iff
def plq (q : Nat → Nat) (n f t : Nat) (c : Nat → Nat) (len : Nat) : Nat → Nat → Nat → Bool → Nat → Option Nat
  | 0, _, _, _, _ => none
  | m + 1, k, j, ok, i => if i = len ∨ c i = 32 then (if ok = true ∧ j = t - f then some k else plq q n f t c len m (k + 1) 0 true (i + 1)) else plq q n f t c len m k (j + 1) (ok && (decide (f + j < n) && decide (q (f + j) = c i))) (i + 1)
def spl (c : Nat → Nat) (len : Nat) : Nat → Nat → Nat → List (Nat × Nat)
  | 0, _, _ => []
  | m + 1, st, i => if i = len ∨ c i = 32 then (st, i - st) :: spl c len m (i + 1) (i + 1) else spl c len m st (i + 1)
def fnd {α : Type} (P : α → Bool) : Nat → List α → Option Nat
  | _, [] => none
  | k, w :: ws => if P w then some k else fnd P (k + 1) ws
theorem plq_e {q : Nat → Nat} {n f t : Nat} {c : Nat → Nat} {len : Nat} (htn : t ≤ n) : ∀ (m k st i : Nat) (ok : Bool), i + m = len + 1 → st ≤ i → (ok = true ↔ ∀ j, j < i - st → f + j < n ∧ q (f + j) = c (st + j)) → plq q n f t c len m k (i - st) ok i = fnd (wmb q f t c) k (spl c len m st i)
  | 0, _, _, _, _, _, _, _ => rfl
  | m + 1, k, st, i, ok, hi, hst, hok => by
    rw [plq, spl]
    by_cases h : i = len ∨ c i = 32
    · rw [if_pos h, if_pos h, fnd]
      have hw : (ok = true ∧ i - st = t - f) ↔ WM q f t c (st, i - st) := by
        unfold WM
        constructor
        · rintro ⟨a, b⟩
          exact ⟨b.symm, fun j hj => (hok.1 a j hj).2⟩
        · rintro ⟨a, b⟩
          dsimp only at a b
          exact ⟨hok.2 (fun j hj => ⟨by omega, b j hj⟩), a.symm⟩
      by_cases z : WM q f t c (st, i - st)
      · rw [if_pos (hw.2 z), if_pos (wmb_e.2 z)]
      · rw [if_neg (fun y => z (hw.1 y)), if_neg (fun y => z (wmb_e.1 y))]
        have := plq_e (q := q) (f := f) (c := c) (len := len) htn m (k + 1) (i + 1) (i + 1) true (by omega) (Nat.le_refl _) ⟨fun _ j hj => absurd hj (by omega), fun _ => rfl⟩
        rw [Nat.sub_self] at this
        exact this
    · rw [if_neg h, if_neg h]
      have := plq_e (q := q) (f := f) (c := c) (len := len) htn m k st (i + 1) (ok && (decide (f + (i - st) < n) && decide (q (f + (i - st)) = c i))) (by omega) (by omega) (by
        rw [Bool.and_eq_true, Bool.and_eq_true, decide_eq_true_iff, decide_eq_true_iff, hok]
        constructor
        · rintro ⟨a, b⟩ j hj
          by_cases z : j = i - st
          · rw [z]; exact ⟨b.1, by rw [b.2]; congr 1; omega⟩
          · exact a j (by omega)
        · intro a
          refine ⟨fun j hj => a j (by omega), ?_⟩
          have := a (i - st) (by omega)
          rw [show st + (i - st) = i by omega] at this
          exact this)
      rw [show i + 1 - st = i - st + 1 by omega] at this
      exact this
theorem cdN_lt {c : Nat → Nat} {f : Nat} : ∀ m, (∀ j, j < m → c (f + j) ≤ 122) → cdN c f m < 32 ^ m
  | 0, _ => Nat.one_pos
  | m + 1, h => by
    have h1 := cdN_lt m (fun j hj => h j (by omega))
    have h2 := h m (by omega)
    rw [cdN, Nat.pow_succ]
    omega
theorem cdN_inj {c d : Nat → Nat} {f g : Nat} : ∀ m l, (∀ j, j < m → 97 ≤ c (f + j) ∧ c (f + j) ≤ 122) → (∀ j, j < l → 97 ≤ d (g + j) ∧ d (g + j) ≤ 122) → cdN c f m = cdN d g l → m = l ∧ ∀ j, j < m → c (f + j) = d (g + j)
  | 0, 0, _, _, _ => ⟨rfl, fun j hj => absurd hj (by omega)⟩
  | 0, l + 1, _, h2, e => by
    have := h2 l (by omega)
    simp only [cdN] at e
    omega
  | m + 1, 0, h1, _, e => by
    have := h1 m (by omega)
    simp only [cdN] at e
    omega
  | m + 1, l + 1, h1, h2, e => by
    have a1 := h1 m (by omega)
    have a2 := h2 l (by omega)
    rw [cdN, cdN] at e
    obtain ⟨b1, b2⟩ := cdN_inj m l (fun j hj => h1 j (by omega)) (fun j hj => h2 j (by omega)) (by omega)
    subst b1
    refine ⟨rfl, fun j hj => ?_⟩
    by_cases z : j = m
    · rw [z]; omega
    · exact b2 j (by omega)
theorem cdN_cg {c d : Nat → Nat} {f g : Nat} : ∀ m, (∀ j, j < m → c (f + j) = d (g + j)) → cdN c f m = cdN d g m
  | 0, _ => rfl
  | m + 1, h => by rw [cdN, cdN, cdN_cg m (fun j hj => h j (by omega)), h m (by omega)]
theorem o64 : ∀ b, b < 256 → Int32.toInt64 (nI b) = Int64.ofNat b := by decide +kernel
theorem wrd_s {q : Nat → Nat} {f : Nat} : ∀ m i, f ≤ i → i - f + m ≤ 10 → (∀ j, i ≤ j → j < i + m → 97 ≤ q j ∧ q j ≤ 122) → wrd q f m i (Int64.ofNat (cdN q f (i - f))) = Int64.ofNat (cdN q f (i - f + m))
  | 0, _, _, _, _ => rfl
  | m + 1, i, hi, hm, hq => by
    have h1 := hq i (by omega) (by omega)
    rw [wrd, if_neg (by omega), o64 _ (by omega)]
    have : Int64.ofNat (cdN q f (i - f)) * 32 + Int64.ofNat (q i) - 96 = Int64.ofNat (cdN q f (i + 1 - f)) := by
      rw [show i + 1 - f = i - f + 1 by omega, cdN, show f + (i - f) = i by omega, Int64.ofNat_add, Int64.ofNat_mul, show q i = q i - 96 + 96 by omega, Int64.ofNat_add, show q i - 96 + 96 - 96 = q i - 96 by omega, ← Int64.add_assoc, show Int64.ofNat 96 = 96 from rfl, Int64.add_sub_cancel, Int64.mul_comm]
      rfl
    rw [this, wrd_s m (i + 1) (by omega) (by omega) (fun j a b => hq j (by omega) (by omega)), show i + 1 - f + m = i - f + (m + 1) by omega]
theorem wrd_b {q : Nat → Nat} {f : Nat} : ∀ m i w, f ≤ i → 1 ≤ m → 10 < i - f + m → wrd q f m i w = -1
  | 0, _, _, _, h, _ => absurd h (by omega)
  | m + 1, i, w, hi, _, h => by
    rw [wrd]
    by_cases z : m = 0
    · rw [z, if_pos (by omega), wrd]
    · exact wrd_b m (i + 1) _ (by omega) (by omega) (by omega)
theorem ext_a {q : Nat → Nat} {n s : Nat} : ∀ m i j, i ≤ j → j < ext q n s m i → srt (q j) = s
  | 0, i, j, h1, h2 => by rw [ext] at h2; omega
  | m + 1, i, j, h1, h2 => by
    rw [ext] at h2
    by_cases z : i < n ∧ srt (q i) = s
    · rw [if_pos z] at h2
      by_cases y : j = i
      · rw [y]; exact z.2
      · exact ext_a m (i + 1) j (by omega) h2
    · rw [if_neg z] at h2; omega
theorem srt_1 {b : Nat} (h : srt b = 1) : 97 ≤ b ∧ b ≤ 122 := by
  unfold srt at h
  by_cases z : 97 ≤ b ∧ b ≤ 122
  · exact z
  · rw [if_neg z] at h
    split at h <;> omega
theorem n64 {a b : Nat} (ha : a < 2 ^ 63) (hb : b < 2 ^ 63) (h : Int64.ofNat a = Int64.ofNat b) : a = b := by
  have := congrArg Int64.toInt h
  rw [Int64.toInt_ofNat_of_lt ha, Int64.toInt_ofNat_of_lt hb] at this
  omega
/-- a token that is a word is a given word where it is worth the same -/
theorem WM_e {q : Nat → Nat} {n f : Nat} {c : Nat → Nat} {w : Nat × Nat} (hS : tkS q n f = 1) (hl : w.2 ≤ 10) (hc : ∀ j, j < w.2 → 97 ≤ c (w.1 + j) ∧ c (w.1 + j) ≤ 122) : WM q f (tkT q n f) c w ↔ tkW q n f = Int64.ofNat (cdN c w.1 w.2) := by
  have hfn : f < n := by
    unfold tkS at hS
    by_cases z : f < n
    · exact z
    · rw [if_neg z] at hS; omega
  have hT : tkT q n f = ext q n 1 (n - f) f := by unfold tkT; rw [hS, if_neg (by decide), if_neg (by decide)]
  have hb := ext_b q n 1 (n - f) f (by omega)
  have hq : ∀ j, f ≤ j → j < tkT q n f → 97 ≤ q j ∧ q j ≤ 122 := fun j a b => srt_1 (ext_a (n := n) (n - f) f j a (by rw [← hT]; exact b))
  have hw : tkW q n f = wrd q f (tkT q n f - f) f 0 := by unfold tkW; rw [if_pos hS]
  have hcl : cdN c w.1 w.2 < 2 ^ 63 := by
    have h1 := cdN_lt w.2 (fun j hj => (hc j hj).2)
    have h2 : 32 ^ w.2 ≤ 32 ^ 10 := Nat.pow_le_pow_right (by decide) hl
    have h3 : (32 : Nat) ^ 10 < 2 ^ 63 := by decide
    omega
  rw [hw]
  by_cases z : tkT q n f - f ≤ 10
  · have e := wrd_s (q := q) (f := f) (tkT q n f - f) f (by omega) (by omega) (fun j a b => hq j a (by omega))
    rw [Nat.sub_self, Nat.zero_add] at e
    have e : wrd q f (tkT q n f - f) f 0 = Int64.ofNat (cdN q f (tkT q n f - f)) := e
    have hql : cdN q f (tkT q n f - f) < 2 ^ 63 := by
      have h1 := cdN_lt (c := q) (f := f) (tkT q n f - f) (fun j hj => (hq (f + j) (by omega) (by omega)).2)
      have h2 : 32 ^ (tkT q n f - f) ≤ 32 ^ 10 := Nat.pow_le_pow_right (by decide) z
      have h3 : (32 : Nat) ^ 10 < 2 ^ 63 := by decide
      omega
    rw [e]
    constructor
    · rintro ⟨a, b⟩
      rw [a, cdN_cg w.2 b]
    · intro h
      obtain ⟨a, b⟩ := cdN_inj _ _ (fun j hj => hq (f + j) (by omega) (by omega)) hc (n64 hql hcl h)
      exact ⟨a, fun j hj => b j (by omega)⟩
  · rw [wrd_b _ _ _ (Nat.le_refl _) (by omega) (by omega)]
    constructor
    · rintro ⟨a, _⟩; omega
    · intro h
      have := congrArg Int64.toInt h
      rw [Int64.toInt_ofNat_of_lt hcl] at this
      have h2 : (-1 : Int64).toInt = -1 := rfl
      omega
theorem fnd_e {q : Nat → Nat} {n f : Nat} {c : Nat → Nat} (hS : tkS q n f = 1) : ∀ (ws : List (Nat × Nat)) (k : Nat), (∀ w ∈ ws, w.2 ≤ 10 ∧ ∀ j, j < w.2 → 97 ≤ c (w.1 + j) ∧ c (w.1 + j) ≤ 122) → fnd (wmb q f (tkT q n f) c) k ws = fnd (fun x => decide (tkW q n f = x)) k (ws.map (fun w => Int64.ofNat (cdN c w.1 w.2)))
  | [], _, _ => rfl
  | w :: ws, k, h => by
    have h1 := h w (by simp)
    have e := WM_e hS h1.1 h1.2
    rw [List.map_cons, fnd, fnd, fnd_e hS ws (k + 1) (fun w hw => h w (by simp [hw]))]
    by_cases z : WM q f (tkT q n f) c w
    · rw [if_pos (wmb_e.2 z), if_pos (decide_eq_true (e.1 z))]
    · rw [if_neg (fun y => z (wmb_e.1 y)), if_neg (fun y => z (e.2 (of_decide_eq_true y)))]
