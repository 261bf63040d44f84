/-! THE CLASSES' WORDS, blocks by their places -/
theorem okX0 : jclok RX0 TX0 6 := (List.forall_mem_cons.mpr ⟨⟨tw_254, rfl⟩, (List.forall_mem_cons.mpr ⟨⟨tw_256, rfl⟩, (List.forall_mem_cons.mpr ⟨⟨tw_258, rfl⟩, (List.forall_mem_cons.mpr ⟨⟨tw_260, rfl⟩, (List.forall_mem_cons.mpr ⟨⟨tw_262, rfl⟩, (List.forall_mem_cons.mpr ⟨⟨tw_264, rfl⟩, (fun _ h => absurd h List.not_mem_nil)⟩)⟩)⟩)⟩)⟩)⟩)
abbrev dsX0 : List Value := [.null, .null, .null, .null, .int 0, .null]
theorem dsX0_ok : ∀ j, j < 6 → defaultValue (tyX0 j) = vp_V dsX0 j := by decide +kernel
theorem okX1 : jclok RX1 TX1 4 := (List.forall_mem_cons.mpr ⟨⟨tw_324, rfl⟩, (List.forall_mem_cons.mpr ⟨⟨tw_326, rfl⟩, (List.forall_mem_cons.mpr ⟨⟨tw_328, rfl⟩, (List.forall_mem_cons.mpr ⟨⟨tw_330, rfl⟩, (fun _ h => absurd h List.not_mem_nil)⟩)⟩)⟩)⟩)
abbrev dsX1 : List Value := [.null, .null, .int 0, .int 0]
theorem dsX1_ok : ∀ j, j < 4 → defaultValue (tyX1 j) = vp_V dsX1 j := by decide +kernel
theorem okX2 : jclok RX2 TX2 6 := (List.forall_mem_cons.mpr ⟨⟨tw_141, rfl⟩, (List.forall_mem_cons.mpr ⟨⟨tw_143, rfl⟩, (List.forall_mem_cons.mpr ⟨⟨tw_145, rfl⟩, (List.forall_mem_cons.mpr ⟨⟨tw_147, rfl⟩, (List.forall_mem_cons.mpr ⟨⟨tw_149, rfl⟩, (List.forall_mem_cons.mpr ⟨⟨tw_151, rfl⟩, (fun _ h => absurd h List.not_mem_nil)⟩)⟩)⟩)⟩)⟩)⟩)
abbrev dsX2 : List Value := [.null, .null, .int 0, .null, .null, .null]
theorem dsX2_ok : ∀ j, j < 6 → defaultValue (tyX2 j) = vp_V dsX2 j := by decide +kernel
theorem okX3 : jclok RX3 TX3 5 := (List.forall_mem_cons.mpr ⟨⟨tw_279, rfl⟩, (List.forall_mem_cons.mpr ⟨⟨tw_281, rfl⟩, (List.forall_mem_cons.mpr ⟨⟨tw_283, rfl⟩, (List.forall_mem_cons.mpr ⟨⟨tw_285, rfl⟩, (List.forall_mem_cons.mpr ⟨⟨tw_287, rfl⟩, (fun _ h => absurd h List.not_mem_nil)⟩)⟩)⟩)⟩)⟩)
abbrev dsX3 : List Value := [.null, .null, .null, .int 0, .null]
theorem dsX3_ok : ∀ j, j < 5 → defaultValue (tyX3 j) = vp_V dsX3 j := by decide +kernel
theorem okX4 : jclok RX4 TX4 3 := (List.forall_mem_cons.mpr ⟨⟨tw_51, rfl⟩, (List.forall_mem_cons.mpr ⟨⟨tw_53, rfl⟩, (List.forall_mem_cons.mpr ⟨⟨tw_55, rfl⟩, (fun _ h => absurd h List.not_mem_nil)⟩)⟩)⟩)
abbrev dsX4 : List Value := [.null, .null, .int 0]
theorem dsX4_ok : ∀ j, j < 3 → defaultValue (tyX4 j) = vp_V dsX4 j := by decide +kernel
theorem okX5 : jclok RX5 TX5 6 := (List.forall_mem_cons.mpr ⟨⟨tw_110, rfl⟩, (List.forall_mem_cons.mpr ⟨⟨tw_112, rfl⟩, (List.forall_mem_cons.mpr ⟨⟨tw_114, rfl⟩, (List.forall_mem_cons.mpr ⟨⟨tw_116, rfl⟩, (List.forall_mem_cons.mpr ⟨⟨tw_118, rfl⟩, (List.forall_mem_cons.mpr ⟨⟨tw_120, rfl⟩, (fun _ h => absurd h List.not_mem_nil)⟩)⟩)⟩)⟩)⟩)⟩)
abbrev dsX5 : List Value := [.null, .null, .null, .int 0, .int 0, .int 0]
theorem dsX5_ok : ∀ j, j < 6 → defaultValue (tyX5 j) = vp_V dsX5 j := by decide +kernel
theorem okX6 : jclok RX6 TX6 15 := (List.forall_mem_cons.mpr ⟨⟨tw_181, rfl⟩, (List.forall_mem_cons.mpr ⟨⟨tw_183, rfl⟩, (List.forall_mem_cons.mpr ⟨⟨tw_185, rfl⟩, (List.forall_mem_cons.mpr ⟨⟨tw_187, rfl⟩, (List.forall_mem_cons.mpr ⟨⟨tw_189, rfl⟩, (List.forall_mem_cons.mpr ⟨⟨tw_191, rfl⟩, (List.forall_mem_cons.mpr ⟨⟨tw_193, rfl⟩, (List.forall_mem_cons.mpr ⟨⟨tw_195, rfl⟩, (List.forall_mem_cons.mpr ⟨⟨tw_197, rfl⟩, (List.forall_mem_cons.mpr ⟨⟨tw_199, rfl⟩, (List.forall_mem_cons.mpr ⟨⟨tw_201, rfl⟩, (List.forall_mem_cons.mpr ⟨⟨tw_203, rfl⟩, (List.forall_mem_cons.mpr ⟨⟨tw_205, rfl⟩, (List.forall_mem_cons.mpr ⟨⟨tw_207, rfl⟩, (List.forall_mem_cons.mpr ⟨⟨tw_209, rfl⟩, (fun _ h => absurd h List.not_mem_nil)⟩)⟩)⟩)⟩)⟩)⟩)⟩)⟩)⟩)⟩)⟩)⟩)⟩)⟩)⟩)
abbrev dsX6 : List Value := [.null, .null, .null, .null, .null, .int 0, .null, .null, .null, .int 0, .null, .null, .null, .null, .int 0]
theorem dsX6_ok : ∀ j, j < 15 → defaultValue (tyX6 j) = vp_V dsX6 j := by decide +kernel
theorem okX7 : jclok RX7 TX7 3 := (List.forall_mem_cons.mpr ⟨⟨tw_303, rfl⟩, (List.forall_mem_cons.mpr ⟨⟨tw_305, rfl⟩, (List.forall_mem_cons.mpr ⟨⟨tw_307, rfl⟩, (fun _ h => absurd h List.not_mem_nil)⟩)⟩)⟩)
abbrev dsX7 : List Value := [.null, .null, .null]
theorem dsX7_ok : ∀ j, j < 3 → defaultValue (tyX7 j) = vp_V dsX7 j := by decide +kernel
theorem okX8 : jclok RX8 TX8 6 := (List.forall_mem_cons.mpr ⟨⟨tw_88, rfl⟩, (List.forall_mem_cons.mpr ⟨⟨tw_90, rfl⟩, (List.forall_mem_cons.mpr ⟨⟨tw_92, rfl⟩, (List.forall_mem_cons.mpr ⟨⟨tw_94, rfl⟩, (List.forall_mem_cons.mpr ⟨⟨tw_96, rfl⟩, (List.forall_mem_cons.mpr ⟨⟨tw_98, rfl⟩, (fun _ h => absurd h List.not_mem_nil)⟩)⟩)⟩)⟩)⟩)⟩)
abbrev dsX8 : List Value := [.null, .int 0, .null, .null, .int 0, .int 0]
theorem dsX8_ok : ∀ j, j < 6 → defaultValue (tyX8 j) = vp_V dsX8 j := by decide +kernel
theorem okX9 : jclok RX9 TX9 4 := (List.forall_mem_cons.mpr ⟨⟨tw_228, rfl⟩, (List.forall_mem_cons.mpr ⟨⟨tw_230, rfl⟩, (List.forall_mem_cons.mpr ⟨⟨tw_232, rfl⟩, (List.forall_mem_cons.mpr ⟨⟨tw_234, rfl⟩, (fun _ h => absurd h List.not_mem_nil)⟩)⟩)⟩)⟩)
abbrev dsX9 : List Value := [.null, .null, .null, .int 0]
theorem dsX9_ok : ∀ j, j < 4 → defaultValue (tyX9 j) = vp_V dsX9 j := by decide +kernel
theorem okX10 : jclok RX10 TX10 6 := (List.forall_mem_cons.mpr ⟨⟨tw_339, rfl⟩, (List.forall_mem_cons.mpr ⟨⟨tw_341, rfl⟩, (List.forall_mem_cons.mpr ⟨⟨tw_343, rfl⟩, (List.forall_mem_cons.mpr ⟨⟨tw_345, rfl⟩, (List.forall_mem_cons.mpr ⟨⟨tw_347, rfl⟩, (List.forall_mem_cons.mpr ⟨⟨tw_349, rfl⟩, (fun _ h => absurd h List.not_mem_nil)⟩)⟩)⟩)⟩)⟩)⟩)
abbrev dsX10 : List Value := [.null, .null, .null, .null, .null, .null]
theorem dsX10_ok : ∀ j, j < 6 → defaultValue (tyX10 j) = vp_V dsX10 j := by decide +kernel
theorem okX11 : jclok RX11 TX11 57 := (List.forall_mem_cons.mpr ⟨⟨tw_1173, rfl⟩, (List.forall_mem_cons.mpr ⟨⟨tw_1175, rfl⟩, (List.forall_mem_cons.mpr ⟨⟨tw_1177, rfl⟩, (List.forall_mem_cons.mpr ⟨⟨tw_1179, rfl⟩, (List.forall_mem_cons.mpr ⟨⟨tw_1181, rfl⟩, (List.forall_mem_cons.mpr ⟨⟨tw_1183, rfl⟩, (List.forall_mem_cons.mpr ⟨⟨tw_1185, rfl⟩, (List.forall_mem_cons.mpr ⟨⟨tw_1187, rfl⟩, (List.forall_mem_cons.mpr ⟨⟨tw_1189, rfl⟩, (List.forall_mem_cons.mpr ⟨⟨tw_1191, rfl⟩, (List.forall_mem_cons.mpr ⟨⟨tw_1193, rfl⟩, (List.forall_mem_cons.mpr ⟨⟨tw_1195, rfl⟩, (List.forall_mem_cons.mpr ⟨⟨tw_1197, rfl⟩, (List.forall_mem_cons.mpr ⟨⟨tw_1199, rfl⟩, (List.forall_mem_cons.mpr ⟨⟨tw_1201, rfl⟩, (List.forall_mem_cons.mpr ⟨⟨tw_1203, rfl⟩, (List.forall_mem_cons.mpr ⟨⟨tw_1205, rfl⟩, (List.forall_mem_cons.mpr ⟨⟨tw_1207, rfl⟩, (List.forall_mem_cons.mpr ⟨⟨tw_1209, rfl⟩, (List.forall_mem_cons.mpr ⟨⟨tw_1211, rfl⟩, (List.forall_mem_cons.mpr ⟨⟨tw_1213, rfl⟩, (List.forall_mem_cons.mpr ⟨⟨tw_1215, rfl⟩, (List.forall_mem_cons.mpr ⟨⟨tw_1217, rfl⟩, (List.forall_mem_cons.mpr ⟨⟨tw_1219, rfl⟩, (List.forall_mem_cons.mpr ⟨⟨tw_1221, rfl⟩, (List.forall_mem_cons.mpr ⟨⟨tw_1223, rfl⟩, (List.forall_mem_cons.mpr ⟨⟨tw_1225, rfl⟩, (List.forall_mem_cons.mpr ⟨⟨tw_1227, rfl⟩, (List.forall_mem_cons.mpr ⟨⟨tw_1229, rfl⟩, (List.forall_mem_cons.mpr ⟨⟨tw_1231, rfl⟩, (List.forall_mem_cons.mpr ⟨⟨tw_1233, rfl⟩, (List.forall_mem_cons.mpr ⟨⟨tw_1235, rfl⟩, (List.forall_mem_cons.mpr ⟨⟨tw_1237, rfl⟩, (List.forall_mem_cons.mpr ⟨⟨tw_1239, rfl⟩, (List.forall_mem_cons.mpr ⟨⟨tw_1241, rfl⟩, (List.forall_mem_cons.mpr ⟨⟨tw_1243, rfl⟩, (List.forall_mem_cons.mpr ⟨⟨tw_1245, rfl⟩, (List.forall_mem_cons.mpr ⟨⟨tw_1247, rfl⟩, (List.forall_mem_cons.mpr ⟨⟨tw_1249, rfl⟩, (List.forall_mem_cons.mpr ⟨⟨tw_1251, rfl⟩, (List.forall_mem_cons.mpr ⟨⟨tw_1253, rfl⟩, (List.forall_mem_cons.mpr ⟨⟨tw_1255, rfl⟩, (List.forall_mem_cons.mpr ⟨⟨tw_1257, rfl⟩, (List.forall_mem_cons.mpr ⟨⟨tw_1259, rfl⟩, (List.forall_mem_cons.mpr ⟨⟨tw_1261, rfl⟩, (List.forall_mem_cons.mpr ⟨⟨tw_1263, rfl⟩, (List.forall_mem_cons.mpr ⟨⟨tw_1265, rfl⟩, (List.forall_mem_cons.mpr ⟨⟨tw_1267, rfl⟩, (List.forall_mem_cons.mpr ⟨⟨tw_1269, rfl⟩, (List.forall_mem_cons.mpr ⟨⟨tw_1271, rfl⟩, (List.forall_mem_cons.mpr ⟨⟨tw_1273, rfl⟩, (List.forall_mem_cons.mpr ⟨⟨tw_1275, rfl⟩, (List.forall_mem_cons.mpr ⟨⟨tw_1277, rfl⟩, (List.forall_mem_cons.mpr ⟨⟨tw_1279, rfl⟩, (List.forall_mem_cons.mpr ⟨⟨tw_1281, rfl⟩, (List.forall_mem_cons.mpr ⟨⟨tw_1283, rfl⟩, (List.forall_mem_cons.mpr ⟨⟨tw_1285, rfl⟩, (fun _ h => absurd h List.not_mem_nil)⟩)⟩)⟩)⟩)⟩)⟩)⟩)⟩)⟩)⟩)⟩)⟩)⟩)⟩)⟩)⟩)⟩)⟩)⟩)⟩)⟩)⟩)⟩)⟩)⟩)⟩)⟩)⟩)⟩)⟩)⟩)⟩)⟩)⟩)⟩)⟩)⟩)⟩)⟩)⟩)⟩)⟩)⟩)⟩)⟩)⟩)⟩)⟩)⟩)⟩)⟩)⟩)⟩)⟩)⟩)⟩)⟩)
abbrev dsX11 : List Value := [.int 0, .null, .null, .null, .int 0, .int 0, .int 0, .null, .null, .null, .int 0, .int 0, .int 0, .int 0, .int 0, .int 0, .int 0, .null, .null, .null, .null, .int 0, .null, .null, .null, .int 0, .null, .null, .null, .int 0, .null, .null, .long 0, .int 0, .null, .null, .null, .int 0, .null, .null, .null, .null, .int 0, .null, .null, .null, .null, .int 0, .int 0, .int 0, .null, .null, .null, .null, .null, .null, .null]
theorem dsX11_ok : ∀ j, j < 57 → defaultValue (tyX11 j) = vp_V dsX11 j := by decide +kernel
def jpick : List (Nat × jK) → Nat → jK
  | [], _ => i_no
  | b :: l, q => match Nat.beq q b.1 with
    | true => b.2
    | false => jpick l q
theorem jpick_snd {p : Program} {l : Launch} {e : Env} {R : Room} {s : State} {m : MethodId} {args : Array Value} {below : List Frame} {meth : Method} {c : Code} {Q : State → Prop} {g : jG} {nL n0 z0 : Nat} : ∀ {bs : List (Nat × jK)}, (∀ b ∈ bs, jSn p l e R s m args below meth c Q g nL n0 z0 b.1 b.2) → ∀ q, jSn p l e R s m args below meth c Q g nL n0 z0 q (jpick bs q)
  | [], _, _ => fun _ _ _ h => absurd h id
  | b :: bs, h, q => by
    unfold jpick
    split
    · next hq =>
      have e := Nat.eq_of_beq_eq_true hq
      subst e
      exact h b List.mem_cons_self
    · exact jpick_snd (fun z hz => h z (List.mem_cons_of_mem _ hz)) q
