def fX10_status (M0 : sp_Mem) : Int32 :=
  (sp_I M0 0 12)
set_option maxRecDepth 100000 in
set_option maxHeartbeats 4000000 in
theorem tX10_status {g : sp_G} {Ω : sp_Mem → Prop} {Q : sp_Qt} {M0 : sp_Mem} {p : Int32} (hG : sp_Ok Ω) (h : fX10_status M0 = p) (hQ : Q (some (.int p)) M0) : sp_Mt g Ω mX10_status 0 0 [.ref 0] M0 Q := by
  unfold fX10_status at h
  refine sp_Mt.of [some (.ref 0)] (by decide) (by simp [sp_ent, Value.category]) rfl ?_
  refine sp_aload_n dX10_status_0 rfl rfl ?_
  refine sp_use (fun ho => ?_)
  have hs := hG.1 _ ho
  refine sp_getI (RX10, TX10, 16) dX10_status_1 clX10 (j := 12) (by decide) tw_427 (wsI_0 hs) (Or.inl rfl) ?_
  cases h
  exact sp_iret dX10_status_4 (ty := .int) rfl rfl (fun _ => hQ)
