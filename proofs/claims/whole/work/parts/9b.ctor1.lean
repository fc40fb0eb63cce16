def rX0 (σ : ZS) (i : Nat) : ZS := (arrF σ i 0 1 12)
theorem grX0 (σ : ZS) (i : Nat) : Gr σ (rX0 σ i) ∧ zN (rX0 σ i) = zN σ + 1 := by
  unfold rX0
  exact ⟨zg_arr σ i 0 1 12, rfl⟩
theorem kkX0 : CalleeI yX0_init cX0_init := ⟨mem_149, mem_50, mem_150, ⟨by decide, by decide⟩, by decide +kernel, rfl⟩
theorem dfX0 : ∀ j, j < 2 → defaultValue (tyX0 j) = vp_V ((zfk 0).map (fun f => if f then Value.null else .int 0)) j := by decide +kernel
set_option maxRecDepth 20000 in
set_option maxHeartbeats 4000000 in
theorem miX0 : MeetsI yX0_init cX0_init 1 1 12 0 rX0 := by
  refine MeetsI.mk (by decide) rfl fun C i σ Φ hz hW h0 => ?_
  refine s_aload_n h0.1 dX0_init_0 rfl (s_here C 1) _ _ _ ?_
  show WW C 1 [some (.ref i)] [.ref i] σ
  refine w_obji h0.1 (by decide) dX0_init_1 mem_151 mem_68 mem_69 ?_
  show WW C 4 [some (.ref i)] [] σ
  refine w_arr (k := 0) (n := 0) (N := 12) (kd := 1) h0 hz dX0_init_4 (fun C' hC => s_bipush hC dX0_init_5 (by decide) (s_here _ _)) dX0_init_7 rfl (by decide) mem_123 (by decide) (by decide) (fun C' hC hI => s_putRF hC hI dX0_init_9 cok_X0 rfl rfl rfl (tyX0_ok 0 (by decide)) (fun _ => ⟨rfl, rfl⟩) mem_152 (s_here _ _)) fun C1 h1 => ?_
  have hz1 := zg_arr _ i 0 1 12 i _ hz
  exact s_vret h1.1 h1.r dX0_init_12 _ _ _ hW
def rX10 (σ : ZS) (i : Nat) : ZS := (arrF σ i 0 1 24)
theorem grX10 (σ : ZS) (i : Nat) : Gr σ (rX10 σ i) ∧ zN (rX10 σ i) = zN σ + 1 := by
  unfold rX10
  exact ⟨zg_arr σ i 0 1 24, rfl⟩
theorem kkX10 : CalleeI yX10_init cX10_init := ⟨mem_135, mem_49, mem_136, ⟨by decide, by decide⟩, by decide +kernel, rfl⟩
theorem dfX10 : ∀ j, j < 2 → defaultValue (tyX10 j) = vp_V ((zfk 7).map (fun f => if f then Value.null else .int 0)) j := by decide +kernel
set_option maxRecDepth 20000 in
set_option maxHeartbeats 4000000 in
theorem miX10 : MeetsI yX10_init cX10_init 1 1 24 7 rX10 := by
  refine MeetsI.mk (by decide) rfl fun C i σ Φ hz hW h0 => ?_
  refine s_aload_n h0.1 dX10_init_0 rfl (s_here C 1) _ _ _ ?_
  show WW C 1 [some (.ref i)] [.ref i] σ
  refine w_obji h0.1 (by decide) dX10_init_1 mem_137 mem_68 mem_69 ?_
  show WW C 4 [some (.ref i)] [] σ
  refine w_arr (k := 0) (n := 0) (N := 24) (kd := 1) h0 hz dX10_init_4 (fun C' hC => s_bipush hC dX10_init_5 (by decide) (s_here _ _)) dX10_init_7 rfl (by decide) mem_123 (by decide) (by decide) (fun C' hC hI => s_putRF hC hI dX10_init_9 cok_X10 rfl rfl rfl (tyX10_ok 0 (by decide)) (fun _ => ⟨rfl, rfl⟩) mem_138 (s_here _ _)) fun C1 h1 => ?_
  have hz1 := zg_arr _ i 0 1 24 i _ hz
  exact s_vret h1.1 h1.r dX10_init_12 _ _ _ hW
def rX8 (σ : ZS) (i : Nat) : ZS := (arrF (arrF (arrF (arrF σ i 2 1 12) i 3 1 12) i 4 1 4) i 5 1 24)
theorem grX8 (σ : ZS) (i : Nat) : Gr σ (rX8 σ i) ∧ zN (rX8 σ i) = zN σ + 4 := by
  unfold rX8
  exact ⟨(((zg_arr σ i 2 1 12).trans (zg_arr (arrF σ i 2 1 12) i 3 1 12)).trans (zg_arr (arrF (arrF σ i 2 1 12) i 3 1 12) i 4 1 4)).trans (zg_arr (arrF (arrF (arrF σ i 2 1 12) i 3 1 12) i 4 1 4) i 5 1 24), rfl⟩
theorem kkX8 : CalleeI yX8_init cX8_init := ⟨mem_91, mem_47, mem_92, ⟨by decide, by decide⟩, by decide +kernel, rfl⟩
theorem dfX8 : ∀ j, j < 6 → defaultValue (tyX8 j) = vp_V ((zfk 5).map (fun f => if f then Value.null else .int 0)) j := by decide +kernel
set_option maxRecDepth 20000 in
set_option maxHeartbeats 4000000 in
theorem miX8 : MeetsI yX8_init cX8_init 1 4 52 5 rX8 := by
  refine MeetsI.mk (by decide) rfl fun C i σ Φ hz hW h0 => ?_
  refine s_aload_n h0.1 dX8_init_0 rfl (s_here C 1) _ _ _ ?_
  show WW C 1 [some (.ref i)] [.ref i] σ
  refine w_obji h0.1 (by decide) dX8_init_1 mem_93 mem_68 mem_69 ?_
  show WW C 4 [some (.ref i)] [] σ
  refine w_arr (k := 3) (n := 40) (N := 12) (kd := 1) h0 hz dX8_init_4 (fun C' hC => s_bipush hC dX8_init_5 (by decide) (s_here _ _)) dX8_init_7 rfl (by decide) mem_123 (by decide) (by decide) (fun C' hC hI => s_putRF hC hI dX8_init_9 cok_X8 rfl rfl rfl (tyX8_ok 2 (by decide)) (fun _ => ⟨rfl, rfl⟩) mem_104 (s_here _ _)) fun C1 h1 => ?_
  have hz1 := zg_arr _ i 2 1 12 i _ hz
  refine w_arr (k := 2) (n := 28) (N := 12) (kd := 1) h1 hz1 dX8_init_12 (fun C' hC => s_bipush hC dX8_init_13 (by decide) (s_here _ _)) dX8_init_15 rfl (by decide) mem_123 (by decide) (by decide) (fun C' hC hI => s_putRF hC hI dX8_init_17 cok_X8 rfl rfl rfl (tyX8_ok 3 (by decide)) (fun _ => ⟨rfl, rfl⟩) mem_107 (s_here _ _)) fun C2 h2 => ?_
  have hz2 := zg_arr _ i 3 1 12 i _ hz1
  refine w_arr (k := 1) (n := 24) (N := 4) (kd := 1) h2 hz2 dX8_init_20 (fun C' hC => s_iconst hC dX8_init_21 (by decide) (s_here _ _)) dX8_init_22 rfl (by decide) mem_123 (by decide) (by decide) (fun C' hC hI => s_putRF hC hI dX8_init_24 cok_X8 rfl rfl rfl (tyX8_ok 4 (by decide)) (fun _ => ⟨rfl, rfl⟩) mem_108 (s_here _ _)) fun C3 h3 => ?_
  have hz3 := zg_arr _ i 4 1 4 i _ hz2
  refine w_arr (k := 0) (n := 0) (N := 24) (kd := 1) h3 hz3 dX8_init_27 (fun C' hC => s_bipush hC dX8_init_28 (by decide) (s_here _ _)) dX8_init_30 rfl (by decide) mem_123 (by decide) (by decide) (fun C' hC hI => s_putRF hC hI dX8_init_32 cok_X8 rfl rfl rfl (tyX8_ok 5 (by decide)) (fun _ => ⟨rfl, rfl⟩) mem_109 (s_here _ _)) fun C4 h4 => ?_
  have hz4 := zg_arr _ i 5 1 24 i _ hz3
  exact s_vret h4.1 h4.r dX8_init_35 _ _ _ hW
def rX5 (σ : ZS) (i : Nat) : ZS := (objF rX0 0 2 (objF rX10 7 1 (objF rX8 5 0 σ i) i) i)
theorem grX5 (σ : ZS) (i : Nat) : Gr σ (rX5 σ i) ∧ zN (rX5 σ i) = zN σ + 9 := by
  unfold rX5
  refine ⟨(((zg_obj grX8 5 0 σ i).1).trans ((zg_obj grX10 7 1 (objF rX8 5 0 σ i) i).1)).trans ((zg_obj grX0 0 2 (objF rX10 7 1 (objF rX8 5 0 σ i) i) i).1), ?_⟩
  rw [(zg_obj grX0 0 2 (objF rX10 7 1 (objF rX8 5 0 σ i) i) i).2, (zg_obj grX10 7 1 (objF rX8 5 0 σ i) i).2, (zg_obj grX8 5 0 σ i).2]
theorem kkX5 : CalleeI yX5_init cX5_init := ⟨mem_127, mem_48, mem_128, ⟨by decide, by decide⟩, by decide +kernel, rfl⟩
theorem dfX5 : ∀ j, j < 4 → defaultValue (tyX5 j) = vp_V ((zfk 2).map (fun f => if f then Value.null else .int 0)) j := by decide +kernel
set_option maxRecDepth 20000 in
set_option maxHeartbeats 4000000 in
theorem miX5 : MeetsI yX5_init cX5_init 2 9 98 2 rX5 := by
  refine MeetsI.mk (by decide) rfl fun C i σ Φ hz hW h0 => ?_
  refine s_aload_n h0.1 dX5_init_0 rfl (s_here C 1) _ _ _ ?_
  show WW C 1 [some (.ref i)] [.ref i] σ
  refine w_obji h0.1 (by decide) dX5_init_1 mem_129 mem_68 mem_69 ?_
  show WW C 4 [some (.ref i)] [] σ
  refine w_obj (k := 4) (n := 40) (mc := 4) (ms := 52) (N := 6) h0 hz dX5_init_4 dX5_init_5 cok_X8 mem_130 mem_89 mem_47 dfX8 dX5_init_8 dX5_init_9 miX8 (by decide) kkX8 mem_131 grX8 (fun C' hC hI => s_putRF hC hI dX5_init_12 cok_X5 rfl rfl rfl (tyX5_ok 0 (by decide)) (fun _ => ⟨rfl, rfl⟩) mem_162 (s_here _ _)) fun C1 h1 => ?_
  have hz1 := (zg_obj grX8 5 0 _ i).1 i _ hz
  refine w_obj (k := 2) (n := 14) (mc := 1) (ms := 24) (N := 2) h1 hz1 dX5_init_15 dX5_init_16 cok_X10 mem_132 mem_133 mem_49 dfX10 dX5_init_19 dX5_init_20 miX10 (by decide) kkX10 mem_134 grX10 (fun C' hC hI => s_putRF hC hI dX5_init_23 cok_X5 rfl rfl rfl (tyX5_ok 1 (by decide)) (fun _ => ⟨rfl, rfl⟩) mem_164 (s_here _ _)) fun C2 h2 => ?_
  have hz2 := (zg_obj grX10 7 1 _ i).1 i _ hz1
  refine w_obj (k := 0) (n := 0) (mc := 1) (ms := 12) (N := 2) h2 hz2 dX5_init_26 dX5_init_27 cok_X0 mem_146 mem_147 mem_50 dfX0 dX5_init_30 dX5_init_31 miX0 (by decide) kkX0 mem_148 grX0 (fun C' hC hI => s_putRF hC hI dX5_init_34 cok_X5 rfl rfl rfl (tyX5_ok 2 (by decide)) (fun _ => ⟨rfl, rfl⟩) mem_166 (s_here _ _)) fun C3 h3 => ?_
  have hz3 := (zg_obj grX0 0 2 _ i).1 i _ hz2
  exact s_vret h3.1 h3.r dX5_init_37 _ _ _ hW
def rX7 (σ : ZS) (i : Nat) : ZS := (arrF σ i 0 2 96)
theorem grX7 (σ : ZS) (i : Nat) : Gr σ (rX7 σ i) ∧ zN (rX7 σ i) = zN σ + 1 := by
  unfold rX7
  exact ⟨zg_arr σ i 0 2 96, rfl⟩
theorem kkX7 : CalleeI yX7_init cX7_init := ⟨mem_73, mem_46, mem_74, ⟨by decide, by decide⟩, by decide +kernel, rfl⟩
theorem dfX7 : ∀ j, j < 3 → defaultValue (tyX7 j) = vp_V ((zfk 4).map (fun f => if f then Value.null else .int 0)) j := by decide +kernel
set_option maxRecDepth 20000 in
set_option maxHeartbeats 4000000 in
theorem miX7 : MeetsI yX7_init cX7_init 1 1 96 4 rX7 := by
  refine MeetsI.mk (by decide) rfl fun C i σ Φ hz hW h0 => ?_
  refine s_aload_n h0.1 dX7_init_0 rfl (s_here C 1) _ _ _ ?_
  show WW C 1 [some (.ref i)] [.ref i] σ
  refine w_obji h0.1 (by decide) dX7_init_1 mem_75 mem_68 mem_69 ?_
  show WW C 4 [some (.ref i)] [] σ
  refine w_arr (k := 0) (n := 0) (N := 96) (kd := 2) h0 hz dX7_init_4 (fun C' hC => s_bipush hC dX7_init_5 (by decide) (s_here _ _)) dX7_init_7 rfl (by decide) mem_87 (by decide) (by decide) (fun C' hC hI => s_putRF hC hI dX7_init_9 cok_X7 rfl rfl rfl (tyX7_ok 0 (by decide)) (fun _ => ⟨rfl, rfl⟩) mem_76 (s_here _ _)) fun C1 h1 => ?_
  have hz1 := zg_arr _ i 0 2 96 i _ hz
  exact s_vret h1.1 h1.r dX7_init_12 _ _ _ hW
def rX9 (σ : ZS) (i : Nat) : ZS := (arrF (arrF (arrF σ i 1 1 12) i 2 1 12) i 3 3 144)
theorem grX9 (σ : ZS) (i : Nat) : Gr σ (rX9 σ i) ∧ zN (rX9 σ i) = zN σ + 3 := by
  unfold rX9
  exact ⟨((zg_arr σ i 1 1 12).trans (zg_arr (arrF σ i 1 1 12) i 2 1 12)).trans (zg_arr (arrF (arrF σ i 1 1 12) i 2 1 12) i 3 3 144), rfl⟩
theorem kkX9 : CalleeI yX9_init cX9_init := ⟨mem_181, mem_51, mem_182, ⟨by decide, by decide⟩, by decide +kernel, rfl⟩
theorem dfX9 : ∀ j, j < 4 → defaultValue (tyX9 j) = vp_V ((zfk 6).map (fun f => if f then Value.null else .int 0)) j := by decide +kernel
set_option maxRecDepth 20000 in
set_option maxHeartbeats 4000000 in
theorem miX9 : MeetsI yX9_init cX9_init 1 3 168 6 rX9 := by
  refine MeetsI.mk (by decide) rfl fun C i σ Φ hz hW h0 => ?_
  refine s_aload_n h0.1 dX9_init_0 rfl (s_here C 1) _ _ _ ?_
  show WW C 1 [some (.ref i)] [.ref i] σ
  refine w_obji h0.1 (by decide) dX9_init_1 mem_183 mem_68 mem_69 ?_
  show WW C 4 [some (.ref i)] [] σ
  refine w_arr (k := 2) (n := 156) (N := 12) (kd := 1) h0 hz dX9_init_4 (fun C' hC => s_bipush hC dX9_init_5 (by decide) (s_here _ _)) dX9_init_7 rfl (by decide) mem_123 (by decide) (by decide) (fun C' hC hI => s_putRF hC hI dX9_init_9 cok_X9 rfl rfl rfl (tyX9_ok 1 (by decide)) (fun _ => ⟨rfl, rfl⟩) mem_188 (s_here _ _)) fun C1 h1 => ?_
  have hz1 := zg_arr _ i 1 1 12 i _ hz
  refine w_arr (k := 1) (n := 144) (N := 12) (kd := 1) h1 hz1 dX9_init_12 (fun C' hC => s_bipush hC dX9_init_13 (by decide) (s_here _ _)) dX9_init_15 rfl (by decide) mem_123 (by decide) (by decide) (fun C' hC hI => s_putRF hC hI dX9_init_17 cok_X9 rfl rfl rfl (tyX9_ok 2 (by decide)) (fun _ => ⟨rfl, rfl⟩) mem_189 (s_here _ _)) fun C2 h2 => ?_
  have hz2 := zg_arr _ i 2 1 12 i _ hz1
  refine w_arr (k := 0) (n := 0) (N := 144) (kd := 3) h2 hz2 dX9_init_20 (fun C' hC => s_sipush hC dX9_init_21 (by decide) (s_here _ _)) dX9_init_24 rfl (by decide) mem_200 (by decide) (by decide) (fun C' hC hI => s_putRF hC hI dX9_init_26 cok_X9 rfl rfl rfl (tyX9_ok 3 (by decide)) (fun _ => ⟨rfl, rfl⟩) mem_190 (s_here _ _)) fun C3 h3 => ?_
  have hz3 := zg_arr _ i 3 3 144 i _ hz2
  exact s_vret h3.1 h3.r dX9_init_29 _ _ _ hW
def rX6 (σ : ZS) (i : Nat) : ZS := (arrF (arrF (arrF (arrF (arrF (arrF σ i 1 1 8) i 2 1 12) i 3 1 384) i 4 1 384) i 6 3 384) i 7 3 384)
theorem grX6 (σ : ZS) (i : Nat) : Gr σ (rX6 σ i) ∧ zN (rX6 σ i) = zN σ + 6 := by
  unfold rX6
  exact ⟨(((((zg_arr σ i 1 1 8).trans (zg_arr (arrF σ i 1 1 8) i 2 1 12)).trans (zg_arr (arrF (arrF σ i 1 1 8) i 2 1 12) i 3 1 384)).trans (zg_arr (arrF (arrF (arrF σ i 1 1 8) i 2 1 12) i 3 1 384) i 4 1 384)).trans (zg_arr (arrF (arrF (arrF (arrF σ i 1 1 8) i 2 1 12) i 3 1 384) i 4 1 384) i 6 3 384)).trans (zg_arr (arrF (arrF (arrF (arrF (arrF σ i 1 1 8) i 2 1 12) i 3 1 384) i 4 1 384) i 6 3 384) i 7 3 384), rfl⟩
theorem kkX6 : CalleeI yX6_init cX6_init := ⟨mem_204, mem_52, mem_205, ⟨by decide, by decide⟩, by decide +kernel, rfl⟩
theorem dfX6 : ∀ j, j < 8 → defaultValue (tyX6 j) = vp_V ((zfk 3).map (fun f => if f then Value.null else .int 0)) j := by decide +kernel
set_option maxRecDepth 20000 in
set_option maxHeartbeats 4000000 in
theorem miX6 : MeetsI yX6_init cX6_init 1 6 1556 3 rX6 := by
  refine MeetsI.mk (by decide) rfl fun C i σ Φ hz hW h0 => ?_
  refine s_aload_n h0.1 dX6_init_0 rfl (s_here C 1) _ _ _ ?_
  show WW C 1 [some (.ref i)] [.ref i] σ
  refine w_obji h0.1 (by decide) dX6_init_1 mem_206 mem_68 mem_69 ?_
  show WW C 4 [some (.ref i)] [] σ
  refine w_arr (k := 5) (n := 1548) (N := 8) (kd := 1) h0 hz dX6_init_4 (fun C' hC => s_bipush hC dX6_init_5 (by decide) (s_here _ _)) dX6_init_7 rfl (by decide) mem_123 (by decide) (by decide) (fun C' hC hI => s_putRF hC hI dX6_init_9 cok_X6 rfl rfl rfl (tyX6_ok 1 (by decide)) (fun _ => ⟨rfl, rfl⟩) mem_208 (s_here _ _)) fun C1 h1 => ?_
  have hz1 := zg_arr _ i 1 1 8 i _ hz
  refine w_arr (k := 4) (n := 1536) (N := 12) (kd := 1) h1 hz1 dX6_init_12 (fun C' hC => s_bipush hC dX6_init_13 (by decide) (s_here _ _)) dX6_init_15 rfl (by decide) mem_123 (by decide) (by decide) (fun C' hC hI => s_putRF hC hI dX6_init_17 cok_X6 rfl rfl rfl (tyX6_ok 2 (by decide)) (fun _ => ⟨rfl, rfl⟩) mem_209 (s_here _ _)) fun C2 h2 => ?_
  have hz2 := zg_arr _ i 2 1 12 i _ hz1
  refine w_arr (k := 3) (n := 1152) (N := 384) (kd := 1) h2 hz2 dX6_init_20 (fun C' hC => s_sipush hC dX6_init_21 (by decide) (s_here _ _)) dX6_init_24 rfl (by decide) mem_123 (by decide) (by decide) (fun C' hC hI => s_putRF hC hI dX6_init_26 cok_X6 rfl rfl rfl (tyX6_ok 3 (by decide)) (fun _ => ⟨rfl, rfl⟩) mem_210 (s_here _ _)) fun C3 h3 => ?_
  have hz3 := zg_arr _ i 3 1 384 i _ hz2
  refine w_arr (k := 2) (n := 768) (N := 384) (kd := 1) h3 hz3 dX6_init_29 (fun C' hC => s_sipush hC dX6_init_30 (by decide) (s_here _ _)) dX6_init_33 rfl (by decide) mem_123 (by decide) (by decide) (fun C' hC hI => s_putRF hC hI dX6_init_35 cok_X6 rfl rfl rfl (tyX6_ok 4 (by decide)) (fun _ => ⟨rfl, rfl⟩) mem_211 (s_here _ _)) fun C4 h4 => ?_
  have hz4 := zg_arr _ i 4 1 384 i _ hz3
  refine w_arr (k := 1) (n := 384) (N := 384) (kd := 3) h4 hz4 dX6_init_38 (fun C' hC => s_sipush hC dX6_init_39 (by decide) (s_here _ _)) dX6_init_42 rfl (by decide) mem_200 (by decide) (by decide) (fun C' hC _ => s_putR hC dX6_init_44 cok_X6 rfl rfl rfl (tyX6_ok 6 (by decide)) (fun _ => ⟨rfl, rfl⟩) mem_213 (s_here _ _)) fun C5 h5 => ?_
  have hz5 := zg_arr _ i 6 3 384 i _ hz4
  refine w_arr (k := 0) (n := 0) (N := 384) (kd := 3) h5 hz5 dX6_init_47 (fun C' hC => s_sipush hC dX6_init_48 (by decide) (s_here _ _)) dX6_init_51 rfl (by decide) mem_200 (by decide) (by decide) (fun C' hC _ => s_putR hC dX6_init_53 cok_X6 rfl rfl rfl (tyX6_ok 7 (by decide)) (fun _ => ⟨rfl, rfl⟩) mem_214 (s_here _ _)) fun C6 h6 => ?_
  have hz6 := zg_arr _ i 7 3 384 i _ hz5
  exact s_vret h6.1 h6.r dX6_init_56 _ _ _ hW
def rX4 (σ : ZS) (i : Nat) : ZS := (arrF σ i 0 3 4096)
theorem grX4 (σ : ZS) (i : Nat) : Gr σ (rX4 σ i) ∧ zN (rX4 σ i) = zN σ + 1 := by
  unfold rX4
  exact ⟨zg_arr σ i 0 3 4096, rfl⟩
theorem kkX4 : CalleeI yX4_init cX4_init := ⟨mem_235, mem_53, mem_236, ⟨by decide, by decide⟩, by decide +kernel, rfl⟩
theorem dfX4 : ∀ j, j < 1 → defaultValue (tyX4 j) = vp_V ((zfk 1).map (fun f => if f then Value.null else .int 0)) j := by decide +kernel
set_option maxRecDepth 20000 in
set_option maxHeartbeats 4000000 in
theorem miX4 : MeetsI yX4_init cX4_init 1 1 4096 1 rX4 := by
  refine MeetsI.mk (by decide) rfl fun C i σ Φ hz hW h0 => ?_
  refine s_aload_n h0.1 dX4_init_0 rfl (s_here C 1) _ _ _ ?_
  show WW C 1 [some (.ref i)] [.ref i] σ
  refine w_obji h0.1 (by decide) dX4_init_1 mem_237 mem_68 mem_69 ?_
  show WW C 4 [some (.ref i)] [] σ
  refine w_arr (k := 0) (n := 0) (N := 4096) (kd := 3) h0 hz dX4_init_4 (fun C' hC => s_sipush hC dX4_init_5 (by decide) (s_here _ _)) dX4_init_8 rfl (by decide) mem_200 (by decide) (by decide) (fun C' hC hI => s_putRF hC hI dX4_init_10 cok_X4 rfl rfl rfl (tyX4_ok 0 (by decide)) (fun _ => ⟨rfl, rfl⟩) mem_238 (s_here _ _)) fun C1 h1 => ?_
  have hz1 := zg_arr _ i 0 3 4096 i _ hz
  exact s_vret h1.1 h1.r dX4_init_13 _ _ _ hW
