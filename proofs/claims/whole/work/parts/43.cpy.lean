/-! ===== copying loops ===== -/
section Cpy
variable {M : sp_Mem} {a b s d n o : Nat}
theorem I_cpy_ne (h : o ≠ b) : sp_I (sp_cpy M a b s d n) o = sp_I M o := by
  funext j
  unfold sp_cpy
  rw [sp_I_rowI, if_neg h]
theorem I_cpy (j : Nat) : sp_I (sp_cpy M a b s d n) b j = if d ≤ j ∧ j < d + n then sp_I M a (s + (j - d)) else sp_I M b j := by
  unfold sp_cpy
  rw [sp_I_rowI, if_pos rfl]
  rfl
theorem I_cpy_at {j : Nat} (h : j < n) : sp_I (sp_cpy M a b 0 0 n) b j = sp_I M a j := by
  rw [I_cpy, if_pos (by omega)]
  congr 1
  omega
theorem cpy_0 : sp_cpy M a b s d 0 = M := by
  unfold sp_cpy sp_rowI
  have : sp_up M.1 b (va_cpy (sp_I M a) (sp_I M b) s d 0) = M.1 := by
    funext x y
    unfold sp_up va_cpy
    by_cases h : x = b
    · rw [if_pos h, if_neg (by omega), h]; rfl
    · rw [if_neg h]
  rw [this]
theorem cpy_s {i : Nat} {v : Int32} (hv : v = sp_I M a (s + i)) : sp_setI (sp_cpy M a b s d i) b (d + i) v = sp_cpy M a b s d (i + 1) := by
  unfold sp_cpy sp_rowI sp_setI
  congr 1
  funext x y
  unfold sp_up2 sp_up va_cpy
  by_cases h : x = b
  · by_cases h2 : y = d + i
    · rw [if_pos ⟨h, h2⟩, if_pos h, if_pos (by omega), hv, h2]
      congr 1
      omega
    · rw [if_neg (fun q => h2 q.2)]
      dsimp only
      rw [if_pos h, if_pos h]
      by_cases h3 : d ≤ y ∧ y < d + i
      · rw [if_pos h3, if_pos (by omega)]
      · rw [if_neg h3, if_neg (by omega)]
  · rw [if_neg (fun q => h q.1)]
    dsimp only
    rw [if_neg h, if_neg h]
theorem cpy_s0 {i : Nat} {v : Int32} (hv : v = sp_I M a (s + i)) : sp_setI (sp_cpy M a b s 0 i) b i v = sp_cpy M a b s 0 (i + 1) := by
  have := cpy_s (b := b) (d := 0) hv
  rwa [Nat.zero_add] at this
theorem L_cpy (x y : Nat) : sp_L (sp_cpy M a b s d n) x y = sp_L M x y := rfl
theorem P_cpy (x y : Nat) : sp_P (sp_cpy M a b s d n) x y = sp_P M x y := rfl
theorem N_cpy (x : Nat) : sp_N (sp_cpy M a b s d n) x = sp_N M x := rfl
theorem setI_self {j : Nat} {v : Int32} (h : sp_I M o j = v) : sp_setI M o j v = M := by
  unfold sp_setI
  have : sp_up2 M.1 o j v = M.1 := by
    funext x y
    unfold sp_up2
    by_cases h2 : x = o ∧ y = j
    · rw [if_pos h2, ← h, h2.1, h2.2]; rfl
    · rw [if_neg h2]
  rw [this]
end Cpy
theorem kp_l {F : Nat} {kx : sp_Mem → Option sp_Mem} {M : sp_Mem} {q : Nat} (hq : q < 18) : ∀ (m i n : Nat), i + m = 46 → m < n → fX11_keepAll_l2 F kx n (nI q) (nI i) (sp_cpy M 105 108 5 (46 * q) i) = kx (sp_cpy M 105 108 5 (46 * q) 46) := by
  intro m
  induction m with
  | zero =>
    intro i n hi hn
    obtain ⟨n, rfl⟩ : ∃ m, n = m + 1 := ⟨n - 1, by omega⟩
    unfold fX11_keepAll_l2
    rw [show i = 46 by omega, if_pos (show (46 : Int32) ≤ nI 46 from nI_le (Nat.le_refl 46) (by omega))]
  | succ m ih =>
    intro i n hi hn
    obtain ⟨n, rfl⟩ : ∃ m, n = m + 1 := ⟨n - 1, by omega⟩
    unfold fX11_keepAll_l2
    simp only [sp_do]
    rw [if_neg (show ¬ (46 : Int32) ≤ nI i from nI_ge (b := 46) (by omega) (by omega)), show (5 : Int32) + nI i = nI (5 + i) from nI_add 5 i, sp_ix_nI (show 5 + i < 5480 by omega) (by omega), Option.bind_some, show (46 : Int32) * nI q + nI i = nI (46 * q + i) from by rw [show (46 : Int32) * nI q = nI (46 * q) from nI_mul 46 q, nI_add], sp_ix_nI (show 46 * q + i < 828 by omega) (by omega), Option.bind_some]
    rw [cpy_s (show sp_I (sp_cpy M 105 108 5 (46 * q) i) 105 (5 + i) = sp_I M 105 (5 + i) by rw [I_cpy_ne (by decide)]), nI_1]
    exact ih (i + 1) n (by omega) (by omega)
theorem pb_l {F : Nat} {kx : sp_Mem → Option sp_Mem} {M : sp_Mem} {q : Nat} (hq : q < 18) : ∀ (m i n : Nat), i + m = 46 → m < n → fX11_putBack_l2 F kx n (nI q) (nI i) (sp_cpy M 108 105 (46 * q) 5 i) = kx (sp_cpy M 108 105 (46 * q) 5 46) := by
  intro m
  induction m with
  | zero =>
    intro i n hi hn
    obtain ⟨n, rfl⟩ : ∃ m, n = m + 1 := ⟨n - 1, by omega⟩
    unfold fX11_putBack_l2
    rw [show i = 46 by omega, if_pos (show (46 : Int32) ≤ nI 46 from nI_le (Nat.le_refl 46) (by omega))]
  | succ m ih =>
    intro i n hi hn
    obtain ⟨n, rfl⟩ : ∃ m, n = m + 1 := ⟨n - 1, by omega⟩
    unfold fX11_putBack_l2
    simp only [sp_do]
    rw [if_neg (show ¬ (46 : Int32) ≤ nI i from nI_ge (b := 46) (by omega) (by omega)), show (46 : Int32) * nI q + nI i = nI (46 * q + i) from by rw [show (46 : Int32) * nI q = nI (46 * q) from nI_mul 46 q, nI_add], sp_ix_nI (show 46 * q + i < 828 by omega) (by omega), Option.bind_some, show (5 : Int32) + nI i = nI (5 + i) from nI_add 5 i, sp_ix_nI (show 5 + i < 5480 by omega) (by omega), Option.bind_some]
    rw [cpy_s (show sp_I (sp_cpy M 108 105 (46 * q) 5 i) 108 (46 * q + i) = sp_I M 108 ((46 * q) + i) by rw [I_cpy_ne (by decide)]), nI_1]
    exact ih (i + 1) n (by omega) (by omega)
theorem rm_l11 {F : Nat} {kx : Int32 → sp_Mem → Option sp_Mem} {M : sp_Mem} {a1 : Int32} : ∀ (m i n : Nat), i + m = 690 → m < n → fX11_remember_l11 F kx n a1 (nI i) (sp_cpy M 108 108 46 0 i) = kx a1 (sp_cpy M 108 108 46 0 690) := by
  intro m
  induction m with
  | zero =>
    intro i n hi hn
    obtain ⟨n, rfl⟩ : ∃ m, n = m + 1 := ⟨n - 1, by omega⟩
    unfold fX11_remember_l11
    rw [show i = 690 by omega, if_pos (show (690 : Int32) ≤ nI 690 from nI_le (Nat.le_refl 690) (by omega))]
  | succ m ih =>
    intro i n hi hn
    obtain ⟨n, rfl⟩ : ∃ m, n = m + 1 := ⟨n - 1, by omega⟩
    unfold fX11_remember_l11
    simp only [sp_do]
    rw [if_neg (show ¬ (690 : Int32) ≤ nI i from nI_ge (b := 690) (by omega) (by omega)), show nI i + 46 = nI (i + 46) from nI_add i 46, sp_ix_nI (show i + 46 < 828 by omega) (by omega), Option.bind_some, sp_ix_nI (show i < 828 by omega) (by omega), Option.bind_some]
    rw [cpy_s0 (show sp_I (sp_cpy M 108 108 46 0 i) 108 (i + 46) = sp_I M 108 (46 + i) by rw [I_cpy, if_neg (by omega)]; congr 1; omega), nI_1]
    exact ih (i + 1) n (by omega) (by omega)
theorem rm_l41 {F : Nat} {kx : Int32 → sp_Mem → Option sp_Mem} {M : sp_Mem} {a1 : Int32} : ∀ (m i n : Nat), i + m = 15 → m < n → fX11_remember_l41 F kx n a1 (nI i) (sp_cpy M 109 109 1 0 i) = kx a1 (sp_cpy M 109 109 1 0 15) := by
  intro m
  induction m with
  | zero =>
    intro i n hi hn
    obtain ⟨n, rfl⟩ : ∃ m, n = m + 1 := ⟨n - 1, by omega⟩
    unfold fX11_remember_l41
    rw [show i = 15 by omega, if_pos (show (15 : Int32) ≤ nI 15 from nI_le (Nat.le_refl 15) (by omega))]
  | succ m ih =>
    intro i n hi hn
    obtain ⟨n, rfl⟩ : ∃ m, n = m + 1 := ⟨n - 1, by omega⟩
    unfold fX11_remember_l41
    simp only [sp_do]
    rw [if_neg (show ¬ (15 : Int32) ≤ nI i from nI_ge (b := 15) (by omega) (by omega)), show nI i + 1 = nI (i + 1) from nI_1 i, sp_ix_nI (show i + 1 < 16 by omega) (by omega), Option.bind_some, sp_ix_nI (show i < 16 by omega) (by omega), Option.bind_some]
    rw [cpy_s0 (show sp_I (sp_cpy M 109 109 1 0 i) 109 (i + 1) = sp_I M 109 (1 + i) by rw [I_cpy, if_neg (by omega)]; congr 1; omega)]
    exact ih (i + 1) n (by omega) (by omega)
theorem im_l {F : Nat} {kx : Int32 → sp_Mem → Option (Int32 × sp_Mem)} {M : sp_Mem} {q : Nat} (hq : q < 2) : ∀ (m i n : Nat), i + m = 5480 → m < n → fX11_image_l23 F kx n (nI q) (nI i) (sp_cpy M 105 106 0 (5480 * q) i) = kx (nI q) (sp_cpy M 105 106 0 (5480 * q) 5480) := by
  intro m
  induction m with
  | zero =>
    intro i n hi hn
    obtain ⟨n, rfl⟩ : ∃ m, n = m + 1 := ⟨n - 1, by omega⟩
    unfold fX11_image_l23
    rw [show i = 5480 by omega, if_pos (show (5480 : Int32) ≤ nI 5480 from nI_le (Nat.le_refl 5480) (by omega))]
  | succ m ih =>
    intro i n hi hn
    obtain ⟨n, rfl⟩ : ∃ m, n = m + 1 := ⟨n - 1, by omega⟩
    unfold fX11_image_l23
    simp only [sp_do]
    rw [if_neg (show ¬ (5480 : Int32) ≤ nI i from nI_ge (b := 5480) (by omega) (by omega)), sp_ix_nI (show i < 5480 by omega) (by omega), Option.bind_some, show (5480 : Int32) * nI q + nI i = nI (5480 * q + i) from by rw [show (5480 : Int32) * nI q = nI (5480 * q) from nI_mul 5480 q, nI_add], sp_ix_nI (show 5480 * q + i < 10960 by omega) (by omega), Option.bind_some]
    rw [cpy_s (show sp_I (sp_cpy M 105 106 0 (5480 * q) i) 105 (i) = sp_I M 105 (0 + i) by rw [I_cpy_ne (by decide)]; congr 1; omega), nI_1]
    exact ih (i + 1) n (by omega) (by omega)
theorem bk_l {F : Nat} {kx : sp_Mem → Option (Int32 × sp_Mem)} {M : sp_Mem} {q : Nat} (hq : q < 2) : ∀ (m i n : Nat), i + m = 5480 → m < n → fX11_back_l39 F kx n (nI q) (nI i) (sp_cpy M 106 105 (5480 * q) 0 i) = kx (sp_cpy M 106 105 (5480 * q) 0 5480) := by
  intro m
  induction m with
  | zero =>
    intro i n hi hn
    obtain ⟨n, rfl⟩ : ∃ m, n = m + 1 := ⟨n - 1, by omega⟩
    unfold fX11_back_l39
    rw [show i = 5480 by omega, if_pos (show (5480 : Int32) ≤ nI 5480 from nI_le (Nat.le_refl 5480) (by omega))]
  | succ m ih =>
    intro i n hi hn
    obtain ⟨n, rfl⟩ : ∃ m, n = m + 1 := ⟨n - 1, by omega⟩
    unfold fX11_back_l39
    simp only [sp_do]
    rw [if_neg (show ¬ (5480 : Int32) ≤ nI i from nI_ge (b := 5480) (by omega) (by omega)), show (5480 : Int32) * nI q + nI i = nI (5480 * q + i) from by rw [show (5480 : Int32) * nI q = nI (5480 * q) from nI_mul 5480 q, nI_add], sp_ix_nI (show 5480 * q + i < 10960 by omega) (by omega), Option.bind_some, sp_ix_nI (show i < 5480 by omega) (by omega), Option.bind_some]
    rw [cpy_s0 (show sp_I (sp_cpy M 106 105 (5480 * q) 0 i) 106 (5480 * q + i) = sp_I M 106 ((5480 * q) + i) by rw [I_cpy_ne (by decide)]), nI_1]
    exact ih (i + 1) n (by omega) (by omega)
theorem od_l77 {F : Nat} {kx : Int32 → sp_Mem → Option (Int32 × sp_Mem)} {M : sp_Mem} {a1 : Int32} : ∀ (m i n : Nat), i + m = 736 → m < n → fX11_orders_l77 F kx n a1 (nI i) (sp_cpy M 108 110 0 0 i) = kx a1 (sp_cpy M 108 110 0 0 736) := by
  intro m
  induction m with
  | zero =>
    intro i n hi hn
    obtain ⟨n, rfl⟩ : ∃ m, n = m + 1 := ⟨n - 1, by omega⟩
    unfold fX11_orders_l77
    rw [show i = 736 by omega, if_pos (show (736 : Int32) ≤ nI 736 from nI_le (Nat.le_refl 736) (by omega))]
  | succ m ih =>
    intro i n hi hn
    obtain ⟨n, rfl⟩ : ∃ m, n = m + 1 := ⟨n - 1, by omega⟩
    unfold fX11_orders_l77
    simp only [sp_do]
    rw [if_neg (show ¬ (736 : Int32) ≤ nI i from nI_ge (b := 736) (by omega) (by omega)), sp_ix_nI (show i < 828 by omega) (by omega), Option.bind_some, sp_ix_nI (show i < 736 by omega) (by omega), Option.bind_some]
    rw [cpy_s0 (show sp_I (sp_cpy M 108 110 0 0 i) 108 (i) = sp_I M 108 (0 + i) by rw [I_cpy_ne (by decide)]; congr 1; omega), nI_1]
    exact ih (i + 1) n (by omega) (by omega)
theorem od_l104 {F : Nat} {kx : Int32 → sp_Mem → Option (Int32 × sp_Mem)} {M : sp_Mem} {a1 : Int32} : ∀ (m i n : Nat), i + m = 16 → m < n → fX11_orders_l104 F kx n a1 (nI i) (sp_cpy M 109 111 0 0 i) = kx a1 (sp_cpy M 109 111 0 0 16) := by
  intro m
  induction m with
  | zero =>
    intro i n hi hn
    obtain ⟨n, rfl⟩ : ∃ m, n = m + 1 := ⟨n - 1, by omega⟩
    unfold fX11_orders_l104
    rw [show i = 16 by omega, if_pos (show (16 : Int32) ≤ nI 16 from nI_le (Nat.le_refl 16) (by omega))]
  | succ m ih =>
    intro i n hi hn
    obtain ⟨n, rfl⟩ : ∃ m, n = m + 1 := ⟨n - 1, by omega⟩
    unfold fX11_orders_l104
    simp only [sp_do]
    rw [if_neg (show ¬ (16 : Int32) ≤ nI i from nI_ge (b := 16) (by omega) (by omega)), sp_ix_nI (show i < 16 by omega) (by omega), Option.bind_some, Option.bind_some]
    rw [cpy_s0 (show sp_I (sp_cpy M 109 111 0 0 i) 109 (i) = sp_I M 109 (0 + i) by rw [I_cpy_ne (by decide)]; congr 1; omega), nI_1]
    exact ih (i + 1) n (by omega) (by omega)
theorem gb_l8 {F : Nat} {kx : Int32 → sp_Mem → Option sp_Mem} {M : sp_Mem} {a1 : Int32} : ∀ (m i n : Nat), i + m = 736 → m < n → fX11_giveBack_l8 F kx n a1 (nI i) (sp_cpy M 110 108 0 0 i) = kx a1 (sp_cpy M 110 108 0 0 736) := by
  intro m
  induction m with
  | zero =>
    intro i n hi hn
    obtain ⟨n, rfl⟩ : ∃ m, n = m + 1 := ⟨n - 1, by omega⟩
    unfold fX11_giveBack_l8
    rw [show i = 736 by omega, if_pos (show (736 : Int32) ≤ nI 736 from nI_le (Nat.le_refl 736) (by omega))]
  | succ m ih =>
    intro i n hi hn
    obtain ⟨n, rfl⟩ : ∃ m, n = m + 1 := ⟨n - 1, by omega⟩
    unfold fX11_giveBack_l8
    simp only [sp_do]
    rw [if_neg (show ¬ (736 : Int32) ≤ nI i from nI_ge (b := 736) (by omega) (by omega)), sp_ix_nI (show i < 736 by omega) (by omega), Option.bind_some, sp_ix_nI (show i < 828 by omega) (by omega), Option.bind_some]
    rw [cpy_s0 (show sp_I (sp_cpy M 110 108 0 0 i) 110 (i) = sp_I M 110 (0 + i) by rw [I_cpy_ne (by decide)]; congr 1; omega), nI_1]
    exact ih (i + 1) n (by omega) (by omega)
theorem gb_l35 {F : Nat} {kx : Int32 → sp_Mem → Option sp_Mem} {M : sp_Mem} {a1 : Int32} : ∀ (m i n : Nat), i + m = 16 → m < n → fX11_giveBack_l35 F kx n a1 (nI i) (sp_cpy M 111 109 0 0 i) = kx a1 (sp_cpy M 111 109 0 0 16) := by
  intro m
  induction m with
  | zero =>
    intro i n hi hn
    obtain ⟨n, rfl⟩ : ∃ m, n = m + 1 := ⟨n - 1, by omega⟩
    unfold fX11_giveBack_l35
    rw [show i = 16 by omega, if_pos (show (16 : Int32) ≤ nI 16 from nI_le (Nat.le_refl 16) (by omega))]
  | succ m ih =>
    intro i n hi hn
    obtain ⟨n, rfl⟩ : ∃ m, n = m + 1 := ⟨n - 1, by omega⟩
    unfold fX11_giveBack_l35
    simp only [sp_do]
    rw [if_neg (show ¬ (16 : Int32) ≤ nI i from nI_ge (b := 16) (by omega) (by omega)), sp_ix_nI (show i < 16 by omega) (by omega), Option.bind_some, Option.bind_some]
    rw [cpy_s0 (show sp_I (sp_cpy M 111 109 0 0 i) 111 (i) = sp_I M 111 (0 + i) by rw [I_cpy_ne (by decide)]; congr 1; omega), nI_1]
    exact ih (i + 1) n (by omega) (by omega)
theorem ni_l {F : Nat} {kx : Int32 → sp_Mem → Option (Int32 × sp_Mem)} {M : sp_Mem} {a1 : Int32} : ∀ (m i n : Nat), i + m = 46 → m < n → fX11_nights_l216 F kx n a1 (nI i) (sp_cpy M 105 131 5 0 i) = kx a1 (sp_cpy M 105 131 5 0 46) := by
  intro m
  induction m with
  | zero =>
    intro i n hi hn
    obtain ⟨n, rfl⟩ : ∃ m, n = m + 1 := ⟨n - 1, by omega⟩
    unfold fX11_nights_l216
    rw [show i = 46 by omega, if_pos (show (46 : Int32) ≤ nI 46 from nI_le (Nat.le_refl 46) (by omega))]
  | succ m ih =>
    intro i n hi hn
    obtain ⟨n, rfl⟩ : ∃ m, n = m + 1 := ⟨n - 1, by omega⟩
    unfold fX11_nights_l216
    simp only [sp_do]
    rw [if_neg (show ¬ (46 : Int32) ≤ nI i from nI_ge (b := 46) (by omega) (by omega)), show (5 : Int32) + nI i = nI (5 + i) from nI_add 5 i, sp_ix_nI (show 5 + i < 5480 by omega) (by omega), Option.bind_some, sp_ix_nI (show i < 46 by omega) (by omega), Option.bind_some]
    rw [cpy_s0 (show sp_I (sp_cpy M 105 131 5 0 i) 105 (5 + i) = sp_I M 105 (5 + i) by rw [I_cpy_ne (by decide)]), nI_1]
    exact ih (i + 1) n (by omega) (by omega)
theorem keep_e {F q : Nat} {M : sp_Mem} (hF : 1000 ≤ F) (hq : q < 18) : fX11_keepAll F M (nI q) = some (sp_cpy M 105 108 5 (46 * q) 46) := by
  have h := kp_l (F := F) (kx := fun M5 => some M5) (M := M) hq 46 0 F (by omega) (by omega)
  rw [cpy_0] at h
  exact h
theorem putB_e {F q : Nat} {M : sp_Mem} (hF : 1000 ≤ F) (hq : q < 18) : fX11_putBack F M (nI q) = some (sp_cpy M 108 105 (46 * q) 5 46) := by
  have h := pb_l (F := F) (kx := fun M5 => some M5) (M := M) hq 46 0 F (by omega) (by omega)
  rw [cpy_0] at h
  exact h
