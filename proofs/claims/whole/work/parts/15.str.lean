theorem sp_nchar {x : Int32} (h : (x.toUInt32 % 65536).toInt32 = x) : narrow .char (.int x) = .int x := by
  show Value.int _ = Value.int _
  congr 1
section SpStr
variable {g : sp_G} {Ω : sp_Mem → Prop} {Q : sp_Qt} {M : sp_Mem} {j : Nat}
set_option maxRecDepth 100000 in
theorem tCoder (hj : j < 10) (hQ : Q (some (.int 0)) M) : sp_Mt g Ω mJ0_coder_7d493 0 0 [.ref (1000000 + j)] M Q := by
  refine sp_Mt.of [some (.ref (1000000 + j))] (by decide) (by simp [sp_ent, Value.category]) rfl ?_
  refine sp_getsC dJ0_coder_7d493_0 tw_677 ?_
  refine sp_if_eq (tgt := 13) dJ0_coder_7d493_3 (by decide) (fun hc => absurd hc (by decide)) (fun _ => ?_)
  refine sp_aload_n dJ0_coder_7d493_6 rfl rfl ?_
  refine sp_getC dJ0_coder_7d493_7 tw_1906 hj ?_
  refine sp_goto (tgt := 14) dJ0_coder_7d493_10 (by decide) ?_
  exact sp_iret dJ0_coder_7d493_14 (ty := .byte) rfl (by decide) (fun _ => hQ)
set_option maxRecDepth 100000 in
theorem tIsLat (hj : j < 10) (hQ : Q (some (.int 1)) M) : sp_Mt g Ω mJ0_isLatin1_aae02 0 0 [.ref (1000000 + j)] M Q := by
  refine sp_Mt.of [some (.ref (1000000 + j))] (by decide) (by simp [sp_ent, Value.category]) rfl ?_
  refine sp_getsC dJ0_isLatin1_aae02_0 tw_677 ?_
  refine sp_if_eq (tgt := 17) dJ0_isLatin1_aae02_3 (by decide) (fun hc => absurd hc (by decide)) (fun _ => ?_)
  refine sp_aload_n dJ0_isLatin1_aae02_6 rfl rfl ?_
  refine sp_getC dJ0_isLatin1_aae02_7 tw_1906 hj ?_
  refine sp_if_ne (tgt := 17) dJ0_isLatin1_aae02_10 (by decide) (fun hc => absurd rfl hc) (fun _ => ?_)
  refine sp_iconst (v := 1) dJ0_isLatin1_aae02_13 (by decide) ?_
  refine sp_goto (tgt := 18) dJ0_isLatin1_aae02_14 (by decide) ?_
  exact sp_iret dJ0_isLatin1_aae02_18 (ty := .boolean) rfl (by decide) (fun _ => hQ)
theorem sp_slen_sh : ∀ j, j < 10 → (Int32.ofNat (sp_tlen.getD j 0)) >>> ((0 : Int32) &&& 31) = sp_slen j := by decide +kernel
theorem sp_chr_lat : ∀ j, j < 10 → ∀ k, k < sp_tlen.getD j 0 → (((sp_tbyt.getD j []).getD k 0 &&& 255).toUInt32 % 65536).toInt32 = sp_chr j k := by decide +kernel
theorem sp_chr_nar : ∀ j, j < 10 → ∀ k, k < sp_tlen.getD j 0 → (((sp_chr j k).toUInt32 % 65536).toInt32 = sp_chr j k) := by decide +kernel
theorem sp_tlen_sm : ∀ j, j < 10 → sp_tlen.getD j 0 < 100 := by decide +kernel
set_option maxRecDepth 100000 in
theorem tStrLen (hj : j < 10) (hQ : Q (some (.int (sp_slen j))) M) : sp_Mt g Ω mJ0_length_8abf5 0 0 [.ref (1000000 + j)] M Q := by
  refine sp_Mt.of [some (.ref (1000000 + j))] (by decide) (by simp [sp_ent, Value.category]) rfl ?_
  refine sp_aload_n dJ0_length_8abf5_0 rfl rfl ?_
  refine sp_getV dJ0_length_8abf5_1 tw_1905 hj ?_
  refine sp_alenV dJ0_length_8abf5_4 hj rfl ?_
  refine sp_aload_n dJ0_length_8abf5_5 rfl rfl ?_
  refine sp_cVS (j := j) (M1 := M) (r := some (.int 0)) (st := [.int (Int32.ofNat (sp_tlen.getD j 0))]) [] [.ref (1000000 + j), .int (Int32.ofNat (sp_tlen.getD j 0))] [.int 0, .int (Int32.ofNat (sp_tlen.getD j 0))] dJ0_length_8abf5_6 okJ0_coder_7d493 tw_673 tw_674 tw_675 (by decide) (by decide) rfl (Nat.le_of_ble_eq_true rfl) rfl rfl hj rfl (fun Q hQ => tCoder hj hQ) ?_
  refine sp_ishr dJ0_length_8abf5_9 ?_
  refine sp_topi (sp_slen_sh j hj) ?_
  exact sp_iret dJ0_length_8abf5_10 (ty := .int) rfl rfl (fun _ => hQ)
set_option maxRecDepth 100000 in
theorem tPreIx {i n : Int32} {r : Option Nat} (h1 : ¬ i < 0) (h2 : i < n) (hQ : Q (some (.int i)) M) : sp_Mt g Ω mJ3_checkIndex_8e157 0 0 [.int i, .int n, va_rf r] M Q := by
  refine sp_Mt.of ([some (.int i), some (.int n), some (va_rf r)]) (by decide) (by cases r <;> simp [sp_ent, Value.category, va_rf]) (by cases r <;> rfl) ?_
  refine sp_iload_n dJ3_checkIndex_8e157_0 rfl rfl ?_
  refine sp_if_lt (tgt := 9) dJ3_checkIndex_8e157_1 (by decide) (fun hc => absurd hc h1) (fun _ => ?_)
  refine sp_iload_n dJ3_checkIndex_8e157_4 rfl rfl ?_
  refine sp_iload_n dJ3_checkIndex_8e157_5 rfl rfl ?_
  refine sp_icmp_lt (tgt := 16) dJ3_checkIndex_8e157_6 (by decide) (fun _ => ?_) (fun hc => absurd h2 hc)
  refine sp_iload_n dJ3_checkIndex_8e157_16 rfl rfl ?_
  exact sp_iret dJ3_checkIndex_8e157_17 (ty := .int) rfl rfl (fun _ => hQ)
set_option maxRecDepth 100000 in
theorem tStrIx {i n : Int32} (h1 : ¬ i < 0) (h2 : i < n) (hQ : Q none M) : sp_Mt g Ω mJ0_checkIndex_df160 0 0 [.int i, .int n] M Q := by
  refine sp_Mt.of ([some (.int i), some (.int n)]) (by decide) (by simp [sp_ent, Value.category]) rfl ?_
  refine sp_iload_n dJ0_checkIndex_df160_0 rfl rfl ?_
  refine sp_iload_n dJ0_checkIndex_df160_1 rfl rfl ?_
  refine sp_getsF dJ0_checkIndex_df160_2 tw_693 (fun r => ?_)
  refine sp_cS (M1 := M) (r := some (.int i)) (st := []) [.int i, .int n, va_rf r] [va_rf r, .int n, .int i] [.int i] dJ0_checkIndex_df160_5 okJ3_checkIndex_8e157 tw_695 tw_696 (by decide) (by decide) rfl (Nat.le_of_ble_eq_true rfl) rfl rfl (fun Q hQ => tPreIx h1 h2 hQ) ?_
  refine sp_pop dJ0_checkIndex_df160_8 rfl ?_
  exact sp_vret dJ0_checkIndex_df160_9 rfl (fun _ => hQ)
set_option maxRecDepth 100000 in
theorem tLatAt {i : Int32} {k : Nat} (hj : j < 10) (hi : sp_ix (sp_tlen.getD j 0) i = some k) (hQ : Q (some (.int (sp_chr j k))) M) : sp_Mt g Ω mJ1_charAt_3b067 0 0 [.ref (1000100 + j), .int i] M Q := by
  have hlt := sp_ix_lt hi
  have hsm := sp_tlen_sm j hj
  obtain ⟨hin, hk⟩ := sp_ix_in hi
  have h1 : ¬ i < 0 := fun q => hin (Or.inl q)
  obtain ⟨q, hq, rfl⟩ := vp_in_of hin (by omega)
  have h2 : nI q < Int32.ofNat (sp_tlen.getD j 0) := nI_lt hq (by omega)
  refine sp_Mt.of ([some (.ref (1000100 + j)), some (.int (nI q))]) (by decide) (by simp [sp_ent, Value.category]) rfl ?_
  refine sp_iload_n dJ1_charAt_3b067_0 rfl rfl ?_
  refine sp_aload_n dJ1_charAt_3b067_1 rfl rfl ?_
  refine sp_alenV dJ1_charAt_3b067_2 hj rfl ?_
  refine sp_cS (M1 := M) (r := none) (st := []) [.int (nI q), .int (Int32.ofNat (sp_tlen.getD j 0))] [.int (Int32.ofNat (sp_tlen.getD j 0)), .int (nI q)] [] dJ1_charAt_3b067_3 okJ0_checkIndex_df160 tw_690 tw_691 (by decide) (by decide) rfl (Nat.le_of_ble_eq_true rfl) rfl rfl (fun Q hQ => tStrIx h1 h2 hQ) ?_
  refine sp_aload_n dJ1_charAt_3b067_6 rfl rfl ?_
  refine sp_iload_n dJ1_charAt_3b067_7 rfl rfl ?_
  refine sp_baldV dJ1_charAt_3b067_8 hj hin rfl ?_
  refine sp_sipush (v := 255) dJ1_charAt_3b067_9 (by decide) ?_
  refine sp_iand dJ1_charAt_3b067_12 ?_
  refine sp_i2c dJ1_charAt_3b067_13 ?_
  rw [hk]
  refine sp_topi (sp_chr_lat j hj k hlt) ?_
  exact sp_iret dJ1_charAt_3b067_14 (ty := .char) rfl (sp_nchar (sp_chr_nar j hj k hlt)) (fun _ => hQ)
set_option maxRecDepth 100000 in
theorem tStrAt {i : Int32} {k : Nat} (hj : j < 10) (hi : sp_ix (sp_tlen.getD j 0) i = some k) (hQ : Q (some (.int (sp_chr j k))) M) : sp_Mt g Ω mJ0_charAt_5068e 0 0 [.ref (1000000 + j), .int i] M Q := by
  have hlt := sp_ix_lt hi
  refine sp_Mt.of ([some (.ref (1000000 + j)), some (.int i)]) (by decide) (by simp [sp_ent, Value.category]) rfl ?_
  refine sp_aload_n dJ0_charAt_5068e_0 rfl rfl ?_
  refine sp_cVS (j := j) (M1 := M) (r := some (.int 1)) (st := []) [] [.ref (1000000 + j)] [.int 1] dJ0_charAt_5068e_1 okJ0_isLatin1_aae02 tw_683 tw_684 tw_685 (by decide) (by decide) rfl (Nat.le_of_ble_eq_true rfl) rfl rfl hj rfl (fun Q hQ => tIsLat hj hQ) ?_
  refine sp_if_eq (tgt := 16) dJ0_charAt_5068e_4 (by decide) (fun hc => absurd hc (by decide)) (fun _ => ?_)
  refine sp_aload_n dJ0_charAt_5068e_7 rfl rfl ?_
  refine sp_getV dJ0_charAt_5068e_8 tw_1905 hj ?_
  refine sp_iload_n dJ0_charAt_5068e_11 rfl rfl ?_
  refine sp_cS (M1 := M) (r := some (.int (sp_chr j k))) (st := []) [.ref (1000100 + j), .int i] [.int i, .ref (1000100 + j)] [.int (sp_chr j k)] dJ0_charAt_5068e_12 okJ1_charAt_3b067 tw_687 tw_688 (by decide) (by decide) rfl (Nat.le_of_ble_eq_true rfl) rfl rfl (fun Q hQ => tLatAt hj hi hQ) ?_
  exact sp_iret dJ0_charAt_5068e_15 (ty := .char) rfl (sp_nchar (sp_chr_nar j hj k hlt)) (fun _ => hQ)
end SpStr
