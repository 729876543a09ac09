theorem znX5_about_X5 : ∀ w ∈ wsX50, w ∈ wsX5_about := fun _ h => List.mem_cons_of_mem _ (List.mem_append_left _ (List.mem_append_right _ h))
theorem znX5_about_X2 : ∀ w ∈ wsX20, w ∈ wsX5_about := fun _ h => List.mem_cons_of_mem _ (List.mem_append_right _ h)
theorem zdX5_about : yX5_about.cls ≠ "java/lang/invoke/MethodHandle" ∧ yX5_about.cls ≠ "java/lang/invoke/VarHandle" ∧ (parseMethodDescriptor yX5_about.desc).map (fun d => d.parameters.length) = some 2 := by decide +kernel
-- MixingRelays about(II)I
section
variable {p : Program} {l : Launch} {e : Env} {s : State} {m : MethodId} {args : Array Value} {below : List Frame} {meth : Method} {c : Code} {Q : State → Prop} {G : zG} {O : zM}
def pX5_about_b128 (M : zM) (post : Int32 → Prop) (t0 : Int32) : Prop :=
  pX5_asFlag t0 (fun r128 => post r128)
set_option maxHeartbeats 4000000 in
set_option maxRecDepth 100000 in
theorem wX5_about_b128 {M : zM} {post : Int32 → Prop}  (hF : CallFix p m c cX5_about 3 s args wsX5_about RX5) (hSt : zSt G s) (hret : zRi p l e ({ frames := 2, cells := 0, slots := 0, locals := 44 } : Room) s m args below meth c Q cX5_about G true O (fun r M1 => M1 = M ∧ post r)) (t0 : Int32) (H : Heap) (locs : List Loc) (ls : Array Slot) (hH : zH G true s H locs M O) (hl : lv_has ls 3 []) (h : pX5_about_b128 M post t0) : W p l e ({ frames := 2, cells := 0, slots := 0, locals := 44 } : Room) s m args below meth c H locs 0 0 Q (F0 m 128 ls [.int t0]) := by
  obtain ⟨hx, hb, hml, hown, hts⟩ := id hF
  unfold pX5_about_b128 at h
  refine zcalliP hH (va_runS (As := [.int t0]) (rest := []) hF (kX5_asFlag l G M O t0 _ h) (va_cwS 1 hts gX5_about_X5_asFlag rfl rfl rfl zdX5_asFlag ⟨Nat.le_of_ble_eq_true rfl, Nat.le_of_ble_eq_true rfl⟩) (zpreS hSt hH [.int t0]) rfl rfl hl.1 rfl (lv_room (Nat.le_of_ble_eq_true rfl)) dX5_about_128 ⟨Nat.zero_le _, Nat.zero_le _⟩) (fun r128 H locs h hH => ?_)
  exact hret _ _ _ _ _ _ dX5_about_131 ⟨rfl, h⟩ hH
def pX5_about (M : zM) (x1 : Int32) (x2 : Int32) (post : Int32 → Prop) : Prop :=
  pX2_isLine M x1 (fun r5 => (¬ (r5 = 0) → (x2 = (0 : Int32) → vp_in x1 30 ∧ post (M.1 6 x1.toNatClampNeg)) ∧ (x2 = (1 : Int32) → vp_in x1 30 ∧ post (M.1 7 x1.toNatClampNeg)) ∧ (x2 = (2 : Int32) → pX2_insOf M x1 (fun r81 => post r81)) ∧ (x2 = (3 : Int32) → pX5_flag (M.1 1 4) x1 (fun r93 => post r93)) ∧ (x2 = (4 : Int32) → pX5_flag (M.1 1 5) x1 (fun r105 => post r105)) ∧ (x2 = (5 : Int32) → vp_in x1 30 ∧ ((lg_cmp (M.2 8 x1.toNatClampNeg) (0 : Int64)) = 0 → pX5_about_b128 M post (0 : Int32)) ∧ (¬ ((lg_cmp (M.2 8 x1.toNatClampNeg) (0 : Int64)) = 0) → pX5_about_b128 M post (1 : Int32))) ∧ (x2 = (6 : Int32) → pX2_isPassing M x1 (fun r137 => pX5_asFlag r137 (fun r140 => post r140))) ∧ (¬ (x2 = (0 : Int32)) → ¬ (x2 = (1 : Int32)) → ¬ (x2 = (2 : Int32)) → ¬ (x2 = (3 : Int32)) → ¬ (x2 = (4 : Int32)) → ¬ (x2 = (5 : Int32)) → ¬ (x2 = (6 : Int32)) → post (-1 : Int32))) ∧ (r5 = 0 → post (-1 : Int32)))
set_option maxHeartbeats 4000000 in
set_option maxRecDepth 100000 in
theorem wX5_about {M : zM} {post : Int32 → Prop} (hF : CallFix p m c cX5_about 3 s args wsX5_about RX5) (hSt : zSt G s) (hret : zRi p l e ({ frames := 2, cells := 0, slots := 0, locals := 44 } : Room) s m args below meth c Q cX5_about G true O (fun r M1 => M1 = M ∧ post r)) (x1 : Int32) (x2 : Int32) (H : Heap) (locs : List Loc) (ls : Array Slot) (hH : zH G true s H locs M O) (hl : lv_has ls 3 [(0, .ref (G.1 0)), (1, .int x1), (2, .int x2)]) (h : pX5_about M x1 x2 post) : W p l e ({ frames := 2, cells := 0, slots := 0, locals := 44 } : Room) s m args below meth c H locs 0 0 Q (F0 m 0 ls []) := by
  obtain ⟨hx, hb, hml, hown, hts⟩ := id hF
  unfold pX5_about at h
  refine lv_aload_n hx hb dX5_about_0 rfl (lv_at hl 0 rfl) ?_
  refine zget (v := .ref (G.1 1)) hF hSt hH 0 (by decide) rfl (zE_0 _ _ _) (C := RX5) (T := TX5) (N := 5) rfl znX5_about_X5 0 (by decide) (List.mem_of_getElem? (i := 1) rfl) rfl dX5_about_1 ?_
  refine lv_iload_n hx hb dX5_about_4 rfl (lv_at hl 1 rfl) ?_
  refine zcalliP hH (va_runV (As := [.int x1]) (rest := []) hF (kX2_isLine l G M O x1 _ h) (cwV 1 hts gX5_about_X2_isLine rfl rfl rfl ⟨rfl, zdX2_isLine⟩ ⟨Nat.le_of_ble_eq_true rfl, Nat.le_of_ble_eq_true rfl⟩) (zpreV hSt hH 1 (by decide) rfl (zE_1 _ _ _) (q := (RX2, TX2, 16)) rfl [.int x1]) rfl rfl hl.1 rfl (lv_room (Nat.le_of_ble_eq_true rfl)) dX5_about_5 ⟨Nat.zero_le _, Nat.zero_le _⟩) (fun r5 H locs h hH => ?_)
  refine lv_if_ne (tgt := 13) hx hb dX5_about_8 (by decide) (fun q8 => ?_) (fun q8 => ?_)
  · have h := h.1 q8
    refine lv_iload_n hx hb dX5_about_13 rfl (lv_at hl 2 rfl) ?_
    by_cases q14_0 : x2 = (0 : Int32)
    · have h := h.1 q14_0
      refine lv_tableIn (off := 42) (tgt := 56) hx hb dX5_about_14 (by rw [q14_0]; decide) (by rw [q14_0]; decide) (by rw [q14_0]; decide) (by decide) ?_
      refine lv_aload_n hx hb dX5_about_56 rfl (lv_at hl 0 rfl) ?_
      refine zget (v := .ref (G.1 1)) hF hSt hH 0 (by decide) rfl (zE_0 _ _ _) (C := RX5) (T := TX5) (N := 5) rfl znX5_about_X5 0 (by decide) (List.mem_of_getElem? (i := 1) rfl) rfl dX5_about_57 ?_
      refine zget (v := .ref (G.1 6)) hF hSt hH 1 (by decide) rfl (zE_1 _ _ _) (C := RX2) (T := TX2) (N := 16) rfl znX5_about_X2 6 (by decide) (List.mem_of_getElem? (i := 2) rfl) rfl dX5_about_60 ?_
      refine lv_iload_n hx hb dX5_about_63 rfl (lv_at hl 1 rfl) ?_
      obtain ⟨q64, h⟩ := h
      refine zald hF hSt hH 6 (by decide) rfl (zE_6 _ _ _) q64 dX5_about_64 ?_
      exact hret _ _ _ _ _ _ dX5_about_65 ⟨rfl, h⟩ hH
    · have h := h.2
      by_cases q14_1 : x2 = (1 : Int32)
      · have h := h.1 q14_1
        refine lv_tableIn (off := 52) (tgt := 66) hx hb dX5_about_14 (by rw [q14_1]; decide) (by rw [q14_1]; decide) (by rw [q14_1]; decide) (by decide) ?_
        refine lv_aload_n hx hb dX5_about_66 rfl (lv_at hl 0 rfl) ?_
        refine zget (v := .ref (G.1 1)) hF hSt hH 0 (by decide) rfl (zE_0 _ _ _) (C := RX5) (T := TX5) (N := 5) rfl znX5_about_X5 0 (by decide) (List.mem_of_getElem? (i := 1) rfl) rfl dX5_about_67 ?_
        refine zget (v := .ref (G.1 7)) hF hSt hH 1 (by decide) rfl (zE_1 _ _ _) (C := RX2) (T := TX2) (N := 16) rfl znX5_about_X2 7 (by decide) (List.mem_of_getElem? (i := 3) rfl) rfl dX5_about_70 ?_
        refine lv_iload_n hx hb dX5_about_73 rfl (lv_at hl 1 rfl) ?_
        obtain ⟨q74, h⟩ := h
        refine zald hF hSt hH 7 (by decide) rfl (zE_7 _ _ _) q74 dX5_about_74 ?_
        exact hret _ _ _ _ _ _ dX5_about_75 ⟨rfl, h⟩ hH
      · have h := h.2
        by_cases q14_2 : x2 = (2 : Int32)
        · have h := h.1 q14_2
          refine lv_tableIn (off := 62) (tgt := 76) hx hb dX5_about_14 (by rw [q14_2]; decide) (by rw [q14_2]; decide) (by rw [q14_2]; decide) (by decide) ?_
          refine lv_aload_n hx hb dX5_about_76 rfl (lv_at hl 0 rfl) ?_
          refine zget (v := .ref (G.1 1)) hF hSt hH 0 (by decide) rfl (zE_0 _ _ _) (C := RX5) (T := TX5) (N := 5) rfl znX5_about_X5 0 (by decide) (List.mem_of_getElem? (i := 1) rfl) rfl dX5_about_77 ?_
          refine lv_iload_n hx hb dX5_about_80 rfl (lv_at hl 1 rfl) ?_
          refine zcalliP hH (va_runV (As := [.int x1]) (rest := []) hF (kX2_insOf l G M O x1 _ h) (cwV 1 hts gX5_about_X2_insOf rfl rfl rfl ⟨rfl, zdX2_insOf⟩ ⟨Nat.le_of_ble_eq_true rfl, Nat.le_of_ble_eq_true rfl⟩) (zpreV hSt hH 1 (by decide) rfl (zE_1 _ _ _) (q := (RX2, TX2, 16)) rfl [.int x1]) rfl rfl hl.1 rfl (lv_room (Nat.le_of_ble_eq_true rfl)) dX5_about_81 ⟨Nat.zero_le _, Nat.zero_le _⟩) (fun r81 H locs h hH => ?_)
          exact hret _ _ _ _ _ _ dX5_about_84 ⟨rfl, h⟩ hH
        · have h := h.2
          by_cases q14_3 : x2 = (3 : Int32)
          · have h := h.1 q14_3
            refine lv_tableIn (off := 71) (tgt := 85) hx hb dX5_about_14 (by rw [q14_3]; decide) (by rw [q14_3]; decide) (by rw [q14_3]; decide) (by decide) ?_
            refine lv_aload_n hx hb dX5_about_85 rfl (lv_at hl 0 rfl) ?_
            refine zget (v := .ref (G.1 1)) hF hSt hH 0 (by decide) rfl (zE_0 _ _ _) (C := RX5) (T := TX5) (N := 5) rfl znX5_about_X5 0 (by decide) (List.mem_of_getElem? (i := 1) rfl) rfl dX5_about_86 ?_
            refine zget (v := .int (M.1 1 4)) hF hSt hH 1 (by decide) rfl (zE_1 _ _ _) (C := RX2) (T := TX2) (N := 16) rfl znX5_about_X2 4 (by decide) (List.mem_of_getElem? (i := 4) rfl) rfl dX5_about_89 ?_
            refine lv_iload_n hx hb dX5_about_92 rfl (lv_at hl 1 rfl) ?_
            refine zcalliP hH (va_runS (As := [.int (M.1 1 4), .int x1]) (rest := []) hF (kX5_flag l G M O (M.1 1 4) x1 _ h) (va_cwS 2 hts gX5_about_X5_flag rfl rfl rfl zdX5_flag ⟨Nat.le_of_ble_eq_true rfl, Nat.le_of_ble_eq_true rfl⟩) (zpreS hSt hH [.int (M.1 1 4), .int x1]) rfl rfl hl.1 rfl (lv_room (Nat.le_of_ble_eq_true rfl)) dX5_about_93 ⟨Nat.zero_le _, Nat.zero_le _⟩) (fun r93 H locs h hH => ?_)
            exact hret _ _ _ _ _ _ dX5_about_96 ⟨rfl, h⟩ hH
          · have h := h.2
            by_cases q14_4 : x2 = (4 : Int32)
            · have h := h.1 q14_4
              refine lv_tableIn (off := 83) (tgt := 97) hx hb dX5_about_14 (by rw [q14_4]; decide) (by rw [q14_4]; decide) (by rw [q14_4]; decide) (by decide) ?_
              refine lv_aload_n hx hb dX5_about_97 rfl (lv_at hl 0 rfl) ?_
              refine zget (v := .ref (G.1 1)) hF hSt hH 0 (by decide) rfl (zE_0 _ _ _) (C := RX5) (T := TX5) (N := 5) rfl znX5_about_X5 0 (by decide) (List.mem_of_getElem? (i := 1) rfl) rfl dX5_about_98 ?_
              refine zget (v := .int (M.1 1 5)) hF hSt hH 1 (by decide) rfl (zE_1 _ _ _) (C := RX2) (T := TX2) (N := 16) rfl znX5_about_X2 5 (by decide) (List.mem_of_getElem? (i := 5) rfl) rfl dX5_about_101 ?_
              refine lv_iload_n hx hb dX5_about_104 rfl (lv_at hl 1 rfl) ?_
              refine zcalliP hH (va_runS (As := [.int (M.1 1 5), .int x1]) (rest := []) hF (kX5_flag l G M O (M.1 1 5) x1 _ h) (va_cwS 2 hts gX5_about_X5_flag rfl rfl rfl zdX5_flag ⟨Nat.le_of_ble_eq_true rfl, Nat.le_of_ble_eq_true rfl⟩) (zpreS hSt hH [.int (M.1 1 5), .int x1]) rfl rfl hl.1 rfl (lv_room (Nat.le_of_ble_eq_true rfl)) dX5_about_105 ⟨Nat.zero_le _, Nat.zero_le _⟩) (fun r105 H locs h hH => ?_)
              exact hret _ _ _ _ _ _ dX5_about_108 ⟨rfl, h⟩ hH
            · have h := h.2
              by_cases q14_5 : x2 = (5 : Int32)
              · have h := h.1 q14_5
                refine lv_tableIn (off := 95) (tgt := 109) hx hb dX5_about_14 (by rw [q14_5]; decide) (by rw [q14_5]; decide) (by rw [q14_5]; decide) (by decide) ?_
                refine lv_aload_n hx hb dX5_about_109 rfl (lv_at hl 0 rfl) ?_
                refine zget (v := .ref (G.1 1)) hF hSt hH 0 (by decide) rfl (zE_0 _ _ _) (C := RX5) (T := TX5) (N := 5) rfl znX5_about_X5 0 (by decide) (List.mem_of_getElem? (i := 1) rfl) rfl dX5_about_110 ?_
                refine zget (v := .ref (G.1 8)) hF hSt hH 1 (by decide) rfl (zE_1 _ _ _) (C := RX2) (T := TX2) (N := 16) rfl znX5_about_X2 8 (by decide) (List.mem_of_getElem? (i := 6) rfl) rfl dX5_about_113 ?_
                refine lv_iload_n hx hb dX5_about_116 rfl (lv_at hl 1 rfl) ?_
                obtain ⟨q117, h⟩ := h
                refine zlald hF hSt hH 8 (by decide) rfl (zE_8 _ _ _) q117 dX5_about_117 ?_
                refine lv_lconst (v := (0 : Int64)) hx hb dX5_about_118 (by decide) ?_
                refine W.lcmp hx hb dX5_about_119 ?_
                refine lv_if_eq (tgt := 127) hx hb dX5_about_120 (by decide) (fun q120 => ?_) (fun q120 => ?_)
                · have h := h.1 q120
                  refine lv_iconst (v := (0 : Int32)) hx hb dX5_about_127 (by decide) ?_
                  exact wX5_about_b128 hF hSt hret (0 : Int32) H locs ls hH (lv_sub hl [] rfl) h
                · have h := h.2 q120
                  refine lv_iconst (v := (1 : Int32)) hx hb dX5_about_123 (by decide) ?_
                  refine lv_goto (tgt := 128) hx hb dX5_about_124 (by decide) ?_
                  exact wX5_about_b128 hF hSt hret (1 : Int32) H locs ls hH (lv_sub hl [] rfl) h
              · have h := h.2
                by_cases q14_6 : x2 = (6 : Int32)
                · have h := h.1 q14_6
                  refine lv_tableIn (off := 118) (tgt := 132) hx hb dX5_about_14 (by rw [q14_6]; decide) (by rw [q14_6]; decide) (by rw [q14_6]; decide) (by decide) ?_
                  refine lv_aload_n hx hb dX5_about_132 rfl (lv_at hl 0 rfl) ?_
                  refine zget (v := .ref (G.1 1)) hF hSt hH 0 (by decide) rfl (zE_0 _ _ _) (C := RX5) (T := TX5) (N := 5) rfl znX5_about_X5 0 (by decide) (List.mem_of_getElem? (i := 1) rfl) rfl dX5_about_133 ?_
                  refine lv_iload_n hx hb dX5_about_136 rfl (lv_at hl 1 rfl) ?_
                  refine zcalliP hH (va_runV (As := [.int x1]) (rest := []) hF (kX2_isPassing l G M O x1 _ h) (cwV 1 hts gX5_about_X2_isPassing rfl rfl rfl ⟨rfl, zdX2_isPassing⟩ ⟨Nat.le_of_ble_eq_true rfl, Nat.le_of_ble_eq_true rfl⟩) (zpreV hSt hH 1 (by decide) rfl (zE_1 _ _ _) (q := (RX2, TX2, 16)) rfl [.int x1]) rfl rfl hl.1 rfl (lv_room (Nat.le_of_ble_eq_true rfl)) dX5_about_137 ⟨Nat.zero_le _, Nat.zero_le _⟩) (fun r137 H locs h hH => ?_)
                  refine zcalliP hH (va_runS (As := [.int r137]) (rest := []) hF (kX5_asFlag l G M O r137 _ h) (va_cwS 1 hts gX5_about_X5_asFlag rfl rfl rfl zdX5_asFlag ⟨Nat.le_of_ble_eq_true rfl, Nat.le_of_ble_eq_true rfl⟩) (zpreS hSt hH [.int r137]) rfl rfl hl.1 rfl (lv_room (Nat.le_of_ble_eq_true rfl)) dX5_about_140 ⟨Nat.zero_le _, Nat.zero_le _⟩) (fun r140 H locs h hH => ?_)
                  exact hret _ _ _ _ _ _ dX5_about_143 ⟨rfl, h⟩ hH
                · have h := h.2
                  have h := h q14_0 q14_1 q14_2 q14_3 q14_4 q14_5 q14_6
                  refine lv_tableOut (tgt := 144) hx hb dX5_about_14 (by have n0 := lv_neT q14_0 (a := 0) (by decide); have n1 := lv_neT q14_1 (a := 1) (by decide); have n2 := lv_neT q14_2 (a := 2) (by decide); have n3 := lv_neT q14_3 (a := 3) (by decide); have n4 := lv_neT q14_4 (a := 4) (by decide); have n5 := lv_neT q14_5 (a := 5) (by decide); have n6 := lv_neT q14_6 (a := 6) (by decide); omega) (by decide) ?_
                  refine lv_iconst (v := (-1 : Int32)) hx hb dX5_about_144 (by decide) ?_
                  exact hret _ _ _ _ _ _ dX5_about_145 ⟨rfl, h⟩ hH
  · have h := h.2 q8
    refine lv_iconst (v := (-1 : Int32)) hx hb dX5_about_11 (by decide) ?_
    exact hret _ _ _ _ _ _ dX5_about_12 ⟨rfl, h⟩ hH
set_option maxRecDepth 100000 in
theorem kX5_about (l : Launch) (G : zG) (M O : zM) (x1 : Int32) (x2 : Int32) (post : Int32 → Prop) (h : pX5_about M x1 x2 post) : Met l yX5_about wsX5_about ({ frames := 2, cells := 0, slots := 0, locals := 44 } : Room) (zPc G true M O [.ref (G.1 0), .int x1, .int x2]) (va_Qi (fun r M1 => M1 = M ∧ post r) (zB G true O) (zAA G)) 0 0 (zAA G) :=
  zmet_i (by decide) rfl (Nat.le_of_ble_eq_true rfl) (fun hF hSt hret H locs ls hH hl => wX5_about hF hSt hret x1 x2 H locs ls hH hl h)
end
theorem zdX5_scaled : yX5_scaled.cls ≠ "java/lang/invoke/MethodHandle" ∧ yX5_scaled.cls ≠ "java/lang/invoke/VarHandle" ∧ (parseMethodDescriptor yX5_scaled.desc).map (fun d => d.parameters.length) = some 2 := by decide +kernel
-- MixingRelays scaled(JI)J
section
variable {p : Program} {l : Launch} {e : Env} {s : State} {m : MethodId} {args : Array Value} {below : List Frame} {meth : Method} {c : Code} {Q : State → Prop} {G : zG} {O : zM}
def pX5_scaled_b76 (post : Int64 → Prop) (x3 : Int64) : Prop :=
  post x3
set_option maxHeartbeats 4000000 in
set_option maxRecDepth 100000 in
theorem wX5_scaled_b76 {M : zM} {post : Int64 → Prop}  (hF : CallFix p m c cX5_scaled 11 s args wsX5_scaled RX5) (hSt : zSt G s) (hret : zRl p l e ({ frames := 0, cells := 0, slots := 0, locals := 0 } : Room) s m args below meth c Q cX5_scaled G true O (fun r M1 => M1 = M ∧ post r)) (x3 : Int64) (H : Heap) (locs : List Loc) (ls : Array Slot) (hH : zH G true s H locs M O) (hl : lv_has ls 11 [(3, .long x3)]) (h : pX5_scaled_b76 post x3) : W p l e ({ frames := 0, cells := 0, slots := 0, locals := 0 } : Room) s m args below meth c H locs 0 0 Q (F0 m 76 ls []) := by
  obtain ⟨hx, hb, hml, hown, hts⟩ := id hF
  unfold pX5_scaled_b76 at h
  refine lv_lload_n hx hb dX5_scaled_76 rfl (lv_at hl 0 rfl) ?_
  exact hret _ _ _ _ _ _ dX5_scaled_77 ⟨rfl, h⟩ hH
def pX5_scaled_b36 (post : Int64 → Prop) (ag11 : Int64 → Int64 → Int32 → Int32 → Prop) (x3 : Int64) (x5 : Int64) (x7 : Int32) (x8 : Int32) : Prop :=
  ag11 x3 (((x5 &&& (9187201950435737471 : Int64)) <<< (((1 : Int32)).toInt64 &&& 63)) ^^^ ((((x5).toUInt64 >>> (((7 : Int32)).toInt64.toUInt64 &&& Int64.toUInt64 63)).toInt64 &&& (72340172838076673 : Int64)) * (27 : Int64))) ((x7).toUInt32 >>> (((1 : Int32)).toUInt32 &&& Int32.toUInt32 31)).toInt32 (x8 + (1 : Int32))
set_option maxHeartbeats 4000000 in
set_option maxRecDepth 100000 in
theorem wX5_scaled_b36 {M : zM} {post : Int64 → Prop} {ag11 : Int64 → Int64 → Int32 → Int32 → Prop} (hF : CallFix p m c cX5_scaled 11 s args wsX5_scaled RX5) (hSt : zSt G s) (hret : zRl p l e ({ frames := 0, cells := 0, slots := 0, locals := 0 } : Room) s m args below meth c Q cX5_scaled G true O (fun r M1 => M1 = M ∧ post r)) (hag11 : ∀ (x3 : Int64) (x5 : Int64) (x7 : Int32) (x8 : Int32) (H : Heap) (locs : List Loc) (ls : Array Slot), ag11 x3 x5 x7 x8 → zH G true s H locs M O → lv_has ls 11 [(3, .long x3), (5, .long x5), (7, .int x7), (8, .int x8)] → W p l e ({ frames := 0, cells := 0, slots := 0, locals := 0 } : Room) s m args below meth c H locs 0 0 Q (F0 m 11 ls [])) (x3 : Int64) (x5 : Int64) (x7 : Int32) (x8 : Int32) (H : Heap) (locs : List Loc) (ls : Array Slot) (hH : zH G true s H locs M O) (hl : lv_has ls 11 [(3, .long x3), (5, .long x5), (7, .int x7), (8, .int x8)]) (h : pX5_scaled_b36 post ag11 x3 x5 x7 x8) : W p l e ({ frames := 0, cells := 0, slots := 0, locals := 0 } : Room) s m args below meth c H locs 0 0 Q (F0 m 36 ls []) := by
  obtain ⟨hx, hb, hml, hown, hts⟩ := id hF
  unfold pX5_scaled_b36 at h
  refine lv_lload hx hb dX5_scaled_36 (lv_at hl 1 rfl) ?_
  refine lv_bipush (v := (7 : Int32)) hx hb dX5_scaled_38 (by decide) ?_
  refine lv_lushr hx hb dX5_scaled_40 rfl ?_
  refine lv_ldc2 (v := (72340172838076673 : Int64)) hx hb hown (hts _ (List.mem_of_getElem? (i := 1) rfl)) dX5_scaled_41 ?_
  refine lv_land hx hb dX5_scaled_44 ?_
  refine lv_lstore (lv' := [(9, .long (((x5).toUInt64 >>> (((7 : Int32)).toInt64.toUInt64 &&& Int64.toUInt64 63)).toInt64 &&& (72340172838076673 : Int64))), (3, .long x3), (5, .long x5), (7, .int x7), (8, .int x8)]) hx hb dX5_scaled_45 hl (by decide) rfl (fun ls hl => ?_)
  refine lv_lload hx hb dX5_scaled_47 (lv_at hl 2 rfl) ?_
  refine lv_ldc2 (v := (9187201950435737471 : Int64)) hx hb hown (hts _ (List.mem_of_getElem? (i := 2) rfl)) dX5_scaled_49 ?_
  refine lv_land hx hb dX5_scaled_52 ?_
  refine lv_iconst (v := (1 : Int32)) hx hb dX5_scaled_53 (by decide) ?_
  refine lv_lshl hx hb dX5_scaled_54 rfl ?_
  refine lv_lload hx hb dX5_scaled_55 (lv_at hl 0 rfl) ?_
  refine lv_ldc2 (v := (27 : Int64)) hx hb hown (hts _ (List.mem_of_getElem? (i := 3) rfl)) dX5_scaled_57 ?_
  refine lv_lmul hx hb dX5_scaled_60 ?_
  refine lv_lxor hx hb dX5_scaled_61 ?_
  refine lv_lstore (lv' := [(5, .long (((x5 &&& (9187201950435737471 : Int64)) <<< (((1 : Int32)).toInt64 &&& 63)) ^^^ ((((x5).toUInt64 >>> (((7 : Int32)).toInt64.toUInt64 &&& Int64.toUInt64 63)).toInt64 &&& (72340172838076673 : Int64)) * (27 : Int64)))), (9, .long (((x5).toUInt64 >>> (((7 : Int32)).toInt64.toUInt64 &&& Int64.toUInt64 63)).toInt64 &&& (72340172838076673 : Int64))), (3, .long x3), (7, .int x7), (8, .int x8)]) hx hb dX5_scaled_62 hl (by decide) rfl (fun ls hl => ?_)
  refine lv_iload hx hb dX5_scaled_64 (lv_at hl 3 rfl) ?_
  refine lv_iconst (v := (1 : Int32)) hx hb dX5_scaled_66 (by decide) ?_
  refine lv_iushr hx hb dX5_scaled_67 rfl ?_
  refine lv_istore (lv' := [(7, .int ((x7).toUInt32 >>> (((1 : Int32)).toUInt32 &&& Int32.toUInt32 31)).toInt32), (5, .long (((x5 &&& (9187201950435737471 : Int64)) <<< (((1 : Int32)).toInt64 &&& 63)) ^^^ ((((x5).toUInt64 >>> (((7 : Int32)).toInt64.toUInt64 &&& Int64.toUInt64 63)).toInt64 &&& (72340172838076673 : Int64)) * (27 : Int64)))), (9, .long (((x5).toUInt64 >>> (((7 : Int32)).toInt64.toUInt64 &&& Int64.toUInt64 63)).toInt64 &&& (72340172838076673 : Int64))), (3, .long x3), (8, .int x8)]) hx hb dX5_scaled_68 hl (by decide) rfl (fun ls hl => ?_)
  refine lv_iinc (v := (x8 + (1 : Int32))) (lv' := [(8, .int (x8 + (1 : Int32))), (7, .int ((x7).toUInt32 >>> (((1 : Int32)).toUInt32 &&& Int32.toUInt32 31)).toInt32), (5, .long (((x5 &&& (9187201950435737471 : Int64)) <<< (((1 : Int32)).toInt64 &&& 63)) ^^^ ((((x5).toUInt64 >>> (((7 : Int32)).toInt64.toUInt64 &&& Int64.toUInt64 63)).toInt64 &&& (72340172838076673 : Int64)) * (27 : Int64)))), (9, .long (((x5).toUInt64 >>> (((7 : Int32)).toInt64.toUInt64 &&& Int64.toUInt64 63)).toInt64 &&& (72340172838076673 : Int64))), (3, .long x3)]) hx hb dX5_scaled_70 hl (k := 4) rfl rfl (by decide) rfl (fun ls hl => ?_)
  refine lv_goto (tgt := 11) hx hb dX5_scaled_73 (by decide) ?_
  exact hag11 x3 (((x5 &&& (9187201950435737471 : Int64)) <<< (((1 : Int32)).toInt64 &&& 63)) ^^^ ((((x5).toUInt64 >>> (((7 : Int32)).toInt64.toUInt64 &&& Int64.toUInt64 63)).toInt64 &&& (72340172838076673 : Int64)) * (27 : Int64))) ((x7).toUInt32 >>> (((1 : Int32)).toUInt32 &&& Int32.toUInt32 31)).toInt32 (x8 + (1 : Int32)) H locs ls h hH (lv_sub hl [4, 2, 1, 0] rfl)
def pX5_scaled_b11 (post : Int64 → Prop) (ag11 : Int64 → Int64 → Int32 → Int32 → Prop) (x3 : Int64) (x5 : Int64) (x7 : Int32) (x8 : Int32) : Prop :=
  ((8 : Int32) ≤ x8 → pX5_scaled_b76 post x3) ∧ (¬ ((8 : Int32) ≤ x8) → (x7 = 0 → pX5_scaled_b76 post x3) ∧ (¬ (x7 = 0) → (¬ ((x7 &&& (1 : Int32)) = (1 : Int32)) → pX5_scaled_b36 post ag11 x3 x5 x7 x8) ∧ ((x7 &&& (1 : Int32)) = (1 : Int32) → pX5_scaled_b36 post ag11 (x3 ^^^ x5) x5 x7 x8)))
set_option maxHeartbeats 4000000 in
set_option maxRecDepth 100000 in
theorem wX5_scaled_b11 {M : zM} {post : Int64 → Prop} {ag11 : Int64 → Int64 → Int32 → Int32 → Prop} (hF : CallFix p m c cX5_scaled 11 s args wsX5_scaled RX5) (hSt : zSt G s) (hret : zRl p l e ({ frames := 0, cells := 0, slots := 0, locals := 0 } : Room) s m args below meth c Q cX5_scaled G true O (fun r M1 => M1 = M ∧ post r)) (hag11 : ∀ (x3 : Int64) (x5 : Int64) (x7 : Int32) (x8 : Int32) (H : Heap) (locs : List Loc) (ls : Array Slot), ag11 x3 x5 x7 x8 → zH G true s H locs M O → lv_has ls 11 [(3, .long x3), (5, .long x5), (7, .int x7), (8, .int x8)] → W p l e ({ frames := 0, cells := 0, slots := 0, locals := 0 } : Room) s m args below meth c H locs 0 0 Q (F0 m 11 ls [])) (x3 : Int64) (x5 : Int64) (x7 : Int32) (x8 : Int32) (H : Heap) (locs : List Loc) (ls : Array Slot) (hH : zH G true s H locs M O) (hl : lv_has ls 11 [(3, .long x3), (5, .long x5), (7, .int x7), (8, .int x8)]) (h : pX5_scaled_b11 post ag11 x3 x5 x7 x8) : W p l e ({ frames := 0, cells := 0, slots := 0, locals := 0 } : Room) s m args below meth c H locs 0 0 Q (F0 m 11 ls []) := by
  obtain ⟨hx, hb, hml, hown, hts⟩ := id hF
  unfold pX5_scaled_b11 at h
  refine lv_iload hx hb dX5_scaled_11 (lv_at hl 3 rfl) ?_
  refine lv_bipush (v := (8 : Int32)) hx hb dX5_scaled_13 (by decide) ?_
  refine lv_icmp_ge (tgt := 76) hx hb dX5_scaled_15 (by decide) (fun q15 => ?_) (fun q15 => ?_)
  · have h := h.1 q15
    exact wX5_scaled_b76 hF hSt hret x3 H locs ls hH (lv_sub hl [0] rfl) h
  · have h := h.2 q15
    refine lv_iload hx hb dX5_scaled_18 (lv_at hl 2 rfl) ?_
    refine lv_if_eq (tgt := 76) hx hb dX5_scaled_20 (by decide) (fun q20 => ?_) (fun q20 => ?_)
    · have h := h.1 q20
      exact wX5_scaled_b76 hF hSt hret x3 H locs ls hH (lv_sub hl [0] rfl) h
    · have h := h.2 q20
      refine lv_iload hx hb dX5_scaled_23 (lv_at hl 2 rfl) ?_
      refine lv_iconst (v := (1 : Int32)) hx hb dX5_scaled_25 (by decide) ?_
      refine lv_iand hx hb dX5_scaled_26 ?_
      refine lv_iconst (v := (1 : Int32)) hx hb dX5_scaled_27 (by decide) ?_
      refine lv_icmp_ne (tgt := 36) hx hb dX5_scaled_28 (by decide) (fun q28 => ?_) (fun q28 => ?_)
      · have h := h.1 q28
        exact wX5_scaled_b36 hF hSt hret hag11 x3 x5 x7 x8 H locs ls hH (lv_sub hl [0, 1, 2, 3] rfl) h
      · have h := h.2 q28
        refine lv_lload_n hx hb dX5_scaled_31 rfl (lv_at hl 0 rfl) ?_
        refine lv_lload hx hb dX5_scaled_32 (lv_at hl 1 rfl) ?_
        refine lv_lxor hx hb dX5_scaled_34 ?_
        refine lv_lstore_n (lv' := [(3, .long (x3 ^^^ x5)), (5, .long x5), (7, .int x7), (8, .int x8)]) hx hb dX5_scaled_35 rfl hl (by decide) rfl (fun ls hl => ?_)
        exact wX5_scaled_b36 hF hSt hret hag11 (x3 ^^^ x5) x5 x7 x8 H locs ls hH (lv_sub hl [0, 1, 2, 3] rfl) h
def pX5_scaled_L11 (post : Int64 → Prop) (x3 : Int64) (x5 : Int64) (x7 : Int32) (x8 : Int32) : Prop :=
  ∃ I : Nat → Int64 → Int64 → Int32 → Int32 → Prop, (∃ n, I n x3 x5 x7 x8) ∧ ∀ n x3 x5 x7 x8, I n x3 x5 x7 x8 → pX5_scaled_b11 post (fun x3 x5 x7 x8 => ∃ k, k < n ∧ I k x3 x5 x7 x8) x3 x5 x7 x8
set_option maxHeartbeats 4000000 in
theorem wX5_scaled_L11 {M : zM} {post : Int64 → Prop}  (hF : CallFix p m c cX5_scaled 11 s args wsX5_scaled RX5) (hSt : zSt G s) (hret : zRl p l e ({ frames := 0, cells := 0, slots := 0, locals := 0 } : Room) s m args below meth c Q cX5_scaled G true O (fun r M1 => M1 = M ∧ post r)) (x3 : Int64) (x5 : Int64) (x7 : Int32) (x8 : Int32) (H : Heap) (locs : List Loc) (ls : Array Slot) (hH : zH G true s H locs M O) (hl : lv_has ls 11 [(3, .long x3), (5, .long x5), (7, .int x7), (8, .int x8)]) (h : pX5_scaled_L11 post x3 x5 x7 x8) : W p l e ({ frames := 0, cells := 0, slots := 0, locals := 0 } : Room) s m args below meth c H locs 0 0 Q (F0 m 11 ls []) := by
  obtain ⟨I, ⟨n, hI⟩, hs⟩ := h
  have key : ∀ (n : Nat) (x3 : Int64) (x5 : Int64) (x7 : Int32) (x8 : Int32) (H : Heap) (locs : List Loc) (ls : Array Slot), I n x3 x5 x7 x8 → zH G true s H locs M O → lv_has ls 11 [(3, .long x3), (5, .long x5), (7, .int x7), (8, .int x8)] → W p l e ({ frames := 0, cells := 0, slots := 0, locals := 0 } : Room) s m args below meth c H locs 0 0 Q (F0 m 11 ls []) := by
    intro n
    induction n using Nat.strongRecOn with
    | _ n ih =>
      intro x3 x5 x7 x8 H locs ls hI hH hl
      exact wX5_scaled_b11 hF hSt hret (fun x3 x5 x7 x8 H locs ls h hH hl => by obtain ⟨k, hk, hI⟩ := h; exact ih k hk x3 x5 x7 x8 H locs ls hI hH hl) x3 x5 x7 x8 H locs ls hH hl (hs n x3 x5 x7 x8 hI)
  exact key n x3 x5 x7 x8 H locs ls hI hH hl
def pX5_scaled (x0 : Int64) (x2 : Int32) (post : Int64 → Prop) : Prop :=
  pX5_scaled_L11 post (0 : Int64) x0 x2 (0 : Int32)
set_option maxHeartbeats 4000000 in
set_option maxRecDepth 100000 in
theorem wX5_scaled {M : zM} {post : Int64 → Prop} (hF : CallFix p m c cX5_scaled 11 s args wsX5_scaled RX5) (hSt : zSt G s) (hret : zRl p l e ({ frames := 0, cells := 0, slots := 0, locals := 0 } : Room) s m args below meth c Q cX5_scaled G true O (fun r M1 => M1 = M ∧ post r)) (x0 : Int64) (x2 : Int32) (H : Heap) (locs : List Loc) (ls : Array Slot) (hH : zH G true s H locs M O) (hl : lv_has ls 11 [(0, .long x0), (2, .int x2)]) (h : pX5_scaled x0 x2 post) : W p l e ({ frames := 0, cells := 0, slots := 0, locals := 0 } : Room) s m args below meth c H locs 0 0 Q (F0 m 0 ls []) := by
  obtain ⟨hx, hb, hml, hown, hts⟩ := id hF
  unfold pX5_scaled at h
  refine lv_lconst (v := (0 : Int64)) hx hb dX5_scaled_0 (by decide) ?_
  refine lv_lstore_n (lv' := [(3, .long (0 : Int64)), (0, .long x0), (2, .int x2)]) hx hb dX5_scaled_1 rfl hl (by decide) rfl (fun ls hl => ?_)
  refine lv_lload_n hx hb dX5_scaled_2 rfl (lv_at hl 1 rfl) ?_
  refine lv_lstore (lv' := [(5, .long x0), (3, .long (0 : Int64)), (0, .long x0), (2, .int x2)]) hx hb dX5_scaled_3 hl (by decide) rfl (fun ls hl => ?_)
  refine lv_iload_n hx hb dX5_scaled_5 rfl (lv_at hl 3 rfl) ?_
  refine lv_istore (lv' := [(7, .int x2), (5, .long x0), (3, .long (0 : Int64)), (0, .long x0), (2, .int x2)]) hx hb dX5_scaled_6 hl (by decide) rfl (fun ls hl => ?_)
  refine lv_iconst (v := (0 : Int32)) hx hb dX5_scaled_8 (by decide) ?_
  refine lv_istore (lv' := [(8, .int (0 : Int32)), (7, .int x2), (5, .long x0), (3, .long (0 : Int64)), (0, .long x0), (2, .int x2)]) hx hb dX5_scaled_9 hl (by decide) rfl (fun ls hl => ?_)
  exact wX5_scaled_L11 hF hSt hret (0 : Int64) x0 x2 (0 : Int32) H locs ls hH (lv_sub hl [3, 2, 1, 0] rfl) h
set_option maxRecDepth 100000 in
theorem kX5_scaled (l : Launch) (G : zG) (M O : zM) (x0 : Int64) (x2 : Int32) (post : Int64 → Prop) (h : pX5_scaled x0 x2 post) : Met l yX5_scaled wsX5_scaled ({ frames := 0, cells := 0, slots := 0, locals := 0 } : Room) (zPc G true M O [.long x0, .int x2]) (va_Ql (fun r M1 => M1 = M ∧ post r) (zB G true O) (zAA G)) 0 0 (zAA G) :=
  zmet_l (by decide) rfl (Nat.le_of_ble_eq_true rfl) (fun hF hSt hret H locs ls hH hl => wX5_scaled hF hSt hret x0 x2 H locs ls hH hl h)
end
theorem zdX5_product : yX5_product.cls ≠ "java/lang/invoke/MethodHandle" ∧ yX5_product.cls ≠ "java/lang/invoke/VarHandle" ∧ (parseMethodDescriptor yX5_product.desc).map (fun d => d.parameters.length) = some 2 := by decide +kernel
-- MixingRelays product(II)I
section
variable {p : Program} {l : Launch} {e : Env} {s : State} {m : MethodId} {args : Array Value} {below : List Frame} {meth : Method} {c : Code} {Q : State → Prop} {G : zG} {O : zM}
def pX5_product (x0 : Int32) (x1 : Int32) (post : Int32 → Prop) : Prop :=
  pX5_scaled (x0).toInt64 x1 (fun r3 => post (r3).toInt32)
set_option maxHeartbeats 4000000 in
set_option maxRecDepth 100000 in
theorem wX5_product {M : zM} {post : Int32 → Prop} (hF : CallFix p m c cX5_product 2 s args wsX5_product RX5) (hSt : zSt G s) (hret : zRi p l e ({ frames := 1, cells := 0, slots := 0, locals := 30 } : Room) s m args below meth c Q cX5_product G true O (fun r M1 => M1 = M ∧ post r)) (x0 : Int32) (x1 : Int32) (H : Heap) (locs : List Loc) (ls : Array Slot) (hH : zH G true s H locs M O) (hl : lv_has ls 2 [(0, .int x0), (1, .int x1)]) (h : pX5_product x0 x1 post) : W p l e ({ frames := 1, cells := 0, slots := 0, locals := 30 } : Room) s m args below meth c H locs 0 0 Q (F0 m 0 ls []) := by
  obtain ⟨hx, hb, hml, hown, hts⟩ := id hF
  unfold pX5_product at h
  refine lv_iload_n hx hb dX5_product_0 rfl (lv_at hl 0 rfl) ?_
  refine lv_i2l hx hb dX5_product_1 rfl ?_
  refine lv_iload_n hx hb dX5_product_2 rfl (lv_at hl 1 rfl) ?_
  refine zcalllP hH (va_runS (As := [.long (x0).toInt64, .int x1]) (rest := []) hF (kX5_scaled l G M O (x0).toInt64 x1 _ h) (va_cwS 2 hts gX5_product_X5_scaled rfl rfl rfl zdX5_scaled ⟨Nat.le_of_ble_eq_true rfl, Nat.le_of_ble_eq_true rfl⟩) (zpreS hSt hH [.long (x0).toInt64, .int x1]) rfl rfl hl.1 rfl (lv_room (Nat.le_of_ble_eq_true rfl)) dX5_product_3 ⟨Nat.zero_le _, Nat.zero_le _⟩) (fun r3 H locs h hH => ?_)
  refine lv_l2i hx hb dX5_product_6 rfl ?_
  exact hret _ _ _ _ _ _ dX5_product_7 ⟨rfl, h⟩ hH
set_option maxRecDepth 100000 in
theorem kX5_product (l : Launch) (G : zG) (M O : zM) (x0 : Int32) (x1 : Int32) (post : Int32 → Prop) (h : pX5_product x0 x1 post) : Met l yX5_product wsX5_product ({ frames := 1, cells := 0, slots := 0, locals := 30 } : Room) (zPc G true M O [.int x0, .int x1]) (va_Qi (fun r M1 => M1 = M ∧ post r) (zB G true O) (zAA G)) 0 0 (zAA G) :=
  zmet_i (by decide) rfl (Nat.le_of_ble_eq_true rfl) (fun hF hSt hret H locs ls hH hl => wX5_product hF hSt hret x0 x1 H locs ls hH hl h)
end
theorem zdX5_times : yX5_times.cls ≠ "java/lang/invoke/MethodHandle" ∧ yX5_times.cls ≠ "java/lang/invoke/VarHandle" ∧ (parseMethodDescriptor yX5_times.desc).map (fun d => d.parameters.length) = some 2 := by decide +kernel
-- MixingRelays times(II)I
section
variable {p : Program} {l : Launch} {e : Env} {s : State} {m : MethodId} {args : Array Value} {below : List Frame} {meth : Method} {c : Code} {Q : State → Prop} {G : zG} {O : zM}
def pX5_times_b24 (post : Int32 → Prop) (t0 : Int32) : Prop :=
  post t0
set_option maxHeartbeats 4000000 in
set_option maxRecDepth 100000 in
theorem wX5_times_b24 {M : zM} {post : Int32 → Prop}  (hF : CallFix p m c cX5_times 3 s args wsX5_times RX5) (hSt : zSt G s) (hret : zRi p l e ({ frames := 2, cells := 0, slots := 0, locals := 51 } : Room) s m args below meth c Q cX5_times G true O (fun r M1 => M1 = M ∧ post r)) (t0 : Int32) (H : Heap) (locs : List Loc) (ls : Array Slot) (hH : zH G true s H locs M O) (hl : lv_has ls 3 []) (h : pX5_times_b24 post t0) : W p l e ({ frames := 2, cells := 0, slots := 0, locals := 51 } : Room) s m args below meth c H locs 0 0 Q (F0 m 24 ls [.int t0]) := by
  obtain ⟨hx, hb, hml, hown, hts⟩ := id hF
  unfold pX5_times_b24 at h
  exact hret _ _ _ _ _ _ dX5_times_24 ⟨rfl, h⟩ hH
def pX5_times_b22 (post : Int32 → Prop) : Prop :=
  pX5_times_b24 post (-2 : Int32)
set_option maxHeartbeats 4000000 in
set_option maxRecDepth 100000 in
theorem wX5_times_b22 {M : zM} {post : Int32 → Prop}  (hF : CallFix p m c cX5_times 3 s args wsX5_times RX5) (hSt : zSt G s) (hret : zRi p l e ({ frames := 2, cells := 0, slots := 0, locals := 51 } : Room) s m args below meth c Q cX5_times G true O (fun r M1 => M1 = M ∧ post r))  (H : Heap) (locs : List Loc) (ls : Array Slot) (hH : zH G true s H locs M O) (hl : lv_has ls 3 []) (h : pX5_times_b22 post) : W p l e ({ frames := 2, cells := 0, slots := 0, locals := 51 } : Room) s m args below meth c H locs 0 0 Q (F0 m 22 ls []) := by
  obtain ⟨hx, hb, hml, hown, hts⟩ := id hF
  unfold pX5_times_b22 at h
  refine lv_bipush (v := (-2 : Int32)) hx hb dX5_times_22 (by decide) ?_
  exact wX5_times_b24 hF hSt hret (-2 : Int32) H locs ls hH (lv_sub hl [] rfl) h
def pX5_times (x1 : Int32) (x2 : Int32) (post : Int32 → Prop) : Prop :=
  pX5_isNumber x1 (fun r1 => (r1 = 0 → pX5_times_b22 post) ∧ (¬ (r1 = 0) → pX5_isNumber x2 (fun r8 => (r8 = 0 → pX5_times_b22 post) ∧ (¬ (r8 = 0) → pX5_product x1 x2 (fun r16 => pX5_times_b24 post r16)))))
set_option maxHeartbeats 4000000 in
set_option maxRecDepth 100000 in
theorem wX5_times {M : zM} {post : Int32 → Prop} (hF : CallFix p m c cX5_times 3 s args wsX5_times RX5) (hSt : zSt G s) (hret : zRi p l e ({ frames := 2, cells := 0, slots := 0, locals := 51 } : Room) s m args below meth c Q cX5_times G true O (fun r M1 => M1 = M ∧ post r)) (x1 : Int32) (x2 : Int32) (H : Heap) (locs : List Loc) (ls : Array Slot) (hH : zH G true s H locs M O) (hl : lv_has ls 3 [(0, .ref (G.1 0)), (1, .int x1), (2, .int x2)]) (h : pX5_times x1 x2 post) : W p l e ({ frames := 2, cells := 0, slots := 0, locals := 51 } : Room) s m args below meth c H locs 0 0 Q (F0 m 0 ls []) := by
  obtain ⟨hx, hb, hml, hown, hts⟩ := id hF
  unfold pX5_times at h
  refine lv_iload_n hx hb dX5_times_0 rfl (lv_at hl 1 rfl) ?_
  refine zcalliP hH (va_runS (As := [.int x1]) (rest := []) hF (kX5_isNumber l G M O x1 _ h) (va_cwS 1 hts gX5_times_X5_isNumber rfl rfl rfl zdX5_isNumber ⟨Nat.le_of_ble_eq_true rfl, Nat.le_of_ble_eq_true rfl⟩) (zpreS hSt hH [.int x1]) rfl rfl hl.1 rfl (lv_room (Nat.le_of_ble_eq_true rfl)) dX5_times_1 ⟨Nat.zero_le _, Nat.zero_le _⟩) (fun r1 H locs h hH => ?_)
  refine lv_if_eq (tgt := 22) hx hb dX5_times_4 (by decide) (fun q4 => ?_) (fun q4 => ?_)
  · have h := h.1 q4
    exact wX5_times_b22 hF hSt hret  H locs ls hH (lv_sub hl [] rfl) h
  · have h := h.2 q4
    refine lv_iload_n hx hb dX5_times_7 rfl (lv_at hl 2 rfl) ?_
    refine zcalliP hH (va_runS (As := [.int x2]) (rest := []) hF (kX5_isNumber l G M O x2 _ h) (va_cwS 1 hts gX5_times_X5_isNumber rfl rfl rfl zdX5_isNumber ⟨Nat.le_of_ble_eq_true rfl, Nat.le_of_ble_eq_true rfl⟩) (zpreS hSt hH [.int x2]) rfl rfl hl.1 rfl (lv_room (Nat.le_of_ble_eq_true rfl)) dX5_times_8 ⟨Nat.zero_le _, Nat.zero_le _⟩) (fun r8 H locs h hH => ?_)
    refine lv_if_eq (tgt := 22) hx hb dX5_times_11 (by decide) (fun q11 => ?_) (fun q11 => ?_)
    · have h := h.1 q11
      exact wX5_times_b22 hF hSt hret  H locs ls hH (lv_sub hl [] rfl) h
    · have h := h.2 q11
      refine lv_iload_n hx hb dX5_times_14 rfl (lv_at hl 1 rfl) ?_
      refine lv_iload_n hx hb dX5_times_15 rfl (lv_at hl 2 rfl) ?_
      refine zcalliP hH (va_runS (As := [.int x1, .int x2]) (rest := []) hF (kX5_product l G M O x1 x2 _ h) (va_cwS 2 hts gX5_times_X5_product rfl rfl rfl zdX5_product ⟨Nat.le_of_ble_eq_true rfl, Nat.le_of_ble_eq_true rfl⟩) (zpreS hSt hH [.int x1, .int x2]) rfl rfl hl.1 rfl (lv_room (Nat.le_of_ble_eq_true rfl)) dX5_times_16 ⟨Nat.zero_le _, Nat.zero_le _⟩) (fun r16 H locs h hH => ?_)
      refine lv_goto (tgt := 24) hx hb dX5_times_19 (by decide) ?_
      exact wX5_times_b24 hF hSt hret r16 H locs ls hH (lv_sub hl [] rfl) h
set_option maxRecDepth 100000 in
theorem kX5_times (l : Launch) (G : zG) (M O : zM) (x1 : Int32) (x2 : Int32) (post : Int32 → Prop) (h : pX5_times x1 x2 post) : Met l yX5_times wsX5_times ({ frames := 2, cells := 0, slots := 0, locals := 51 } : Room) (zPc G true M O [.ref (G.1 0), .int x1, .int x2]) (va_Qi (fun r M1 => M1 = M ∧ post r) (zB G true O) (zAA G)) 0 0 (zAA G) :=
  zmet_i (by decide) rfl (Nat.le_of_ble_eq_true rfl) (fun hF hSt hret H locs ls hH hl => wX5_times hF hSt hret x1 x2 H locs ls hH hl h)
end
theorem zdX5_inverseOf : yX5_inverseOf.cls ≠ "java/lang/invoke/MethodHandle" ∧ yX5_inverseOf.cls ≠ "java/lang/invoke/VarHandle" ∧ (parseMethodDescriptor yX5_inverseOf.desc).map (fun d => d.parameters.length) = some 1 := by decide +kernel
-- MixingRelays inverseOf(I)I
section
variable {p : Program} {l : Launch} {e : Env} {s : State} {m : MethodId} {args : Array Value} {below : List Frame} {meth : Method} {c : Code} {Q : State → Prop} {G : zG} {O : zM}
def pX5_inverseOf_b8 (post : Int32 → Prop) (ag8 : Int64 → Int64 → Int32 → Prop) (x1 : Int64) (x3 : Int64) (x5 : Int32) : Prop :=
  ((8 : Int32) ≤ x5 → post (x3).toInt32) ∧ (¬ ((8 : Int32) ≤ x5) → pX5_scaled x1 (x1).toInt32 (fun r18 => pX5_scaled x3 (r18).toInt32 (fun r25 => ag8 r18 r25 (x5 + (1 : Int32)))))
set_option maxHeartbeats 4000000 in
set_option maxRecDepth 100000 in
theorem wX5_inverseOf_b8 {M : zM} {post : Int32 → Prop} {ag8 : Int64 → Int64 → Int32 → Prop} (hF : CallFix p m c cX5_inverseOf 6 s args wsX5_inverseOf RX5) (hSt : zSt G s) (hret : zRi p l e ({ frames := 1, cells := 0, slots := 0, locals := 30 } : Room) s m args below meth c Q cX5_inverseOf G true O (fun r M1 => M1 = M ∧ post r)) (hag8 : ∀ (x1 : Int64) (x3 : Int64) (x5 : Int32) (H : Heap) (locs : List Loc) (ls : Array Slot), ag8 x1 x3 x5 → zH G true s H locs M O → lv_has ls 6 [(1, .long x1), (3, .long x3), (5, .int x5)] → W p l e ({ frames := 1, cells := 0, slots := 0, locals := 30 } : Room) s m args below meth c H locs 0 0 Q (F0 m 8 ls [])) (x1 : Int64) (x3 : Int64) (x5 : Int32) (H : Heap) (locs : List Loc) (ls : Array Slot) (hH : zH G true s H locs M O) (hl : lv_has ls 6 [(1, .long x1), (3, .long x3), (5, .int x5)]) (h : pX5_inverseOf_b8 post ag8 x1 x3 x5) : W p l e ({ frames := 1, cells := 0, slots := 0, locals := 30 } : Room) s m args below meth c H locs 0 0 Q (F0 m 8 ls []) := by
  obtain ⟨hx, hb, hml, hown, hts⟩ := id hF
  unfold pX5_inverseOf_b8 at h
  refine lv_iload hx hb dX5_inverseOf_8 (lv_at hl 2 rfl) ?_
  refine lv_bipush (v := (8 : Int32)) hx hb dX5_inverseOf_10 (by decide) ?_
  refine lv_icmp_ge (tgt := 35) hx hb dX5_inverseOf_12 (by decide) (fun q12 => ?_) (fun q12 => ?_)
  · have h := h.1 q12
    refine lv_lload_n hx hb dX5_inverseOf_35 rfl (lv_at hl 1 rfl) ?_
    refine lv_l2i hx hb dX5_inverseOf_36 rfl ?_
    exact hret _ _ _ _ _ _ dX5_inverseOf_37 ⟨rfl, h⟩ hH
  · have h := h.2 q12
    refine lv_lload_n hx hb dX5_inverseOf_15 rfl (lv_at hl 0 rfl) ?_
    refine lv_lload_n hx hb dX5_inverseOf_16 rfl (lv_at hl 0 rfl) ?_
    refine lv_l2i hx hb dX5_inverseOf_17 rfl ?_
    refine zcalllP hH (va_runS (As := [.long x1, .int (x1).toInt32]) (rest := []) hF (kX5_scaled l G M O x1 (x1).toInt32 _ h) (va_cwS 2 hts gX5_inverseOf_X5_scaled rfl rfl rfl zdX5_scaled ⟨Nat.le_of_ble_eq_true rfl, Nat.le_of_ble_eq_true rfl⟩) (zpreS hSt hH [.long x1, .int (x1).toInt32]) rfl rfl hl.1 rfl (lv_room (Nat.le_of_ble_eq_true rfl)) dX5_inverseOf_18 ⟨Nat.zero_le _, Nat.zero_le _⟩) (fun r18 H locs h hH => ?_)
    refine lv_lstore_n (lv' := [(1, .long r18), (3, .long x3), (5, .int x5)]) hx hb dX5_inverseOf_21 rfl hl (by decide) rfl (fun ls hl => ?_)
    refine lv_lload_n hx hb dX5_inverseOf_22 rfl (lv_at hl 1 rfl) ?_
    refine lv_lload_n hx hb dX5_inverseOf_23 rfl (lv_at hl 0 rfl) ?_
    refine lv_l2i hx hb dX5_inverseOf_24 rfl ?_
    refine zcalllP hH (va_runS (As := [.long x3, .int (r18).toInt32]) (rest := []) hF (kX5_scaled l G M O x3 (r18).toInt32 _ h) (va_cwS 2 hts gX5_inverseOf_X5_scaled rfl rfl rfl zdX5_scaled ⟨Nat.le_of_ble_eq_true rfl, Nat.le_of_ble_eq_true rfl⟩) (zpreS hSt hH [.long x3, .int (r18).toInt32]) rfl rfl hl.1 rfl (lv_room (Nat.le_of_ble_eq_true rfl)) dX5_inverseOf_25 ⟨Nat.zero_le _, Nat.zero_le _⟩) (fun r25 H locs h hH => ?_)
    refine lv_lstore_n (lv' := [(3, .long r25), (1, .long r18), (5, .int x5)]) hx hb dX5_inverseOf_28 rfl hl (by decide) rfl (fun ls hl => ?_)
    refine lv_iinc (v := (x5 + (1 : Int32))) (lv' := [(5, .int (x5 + (1 : Int32))), (3, .long r25), (1, .long r18)]) hx hb dX5_inverseOf_29 hl (k := 2) rfl rfl (by decide) rfl (fun ls hl => ?_)
    refine lv_goto (tgt := 8) hx hb dX5_inverseOf_32 (by decide) ?_
    exact hag8 r18 r25 (x5 + (1 : Int32)) H locs ls h hH (lv_sub hl [2, 1, 0] rfl)
def pX5_inverseOf_L8 (post : Int32 → Prop) (x1 : Int64) (x3 : Int64) (x5 : Int32) : Prop :=
  ∃ I : Nat → Int64 → Int64 → Int32 → Prop, (∃ n, I n x1 x3 x5) ∧ ∀ n x1 x3 x5, I n x1 x3 x5 → pX5_inverseOf_b8 post (fun x1 x3 x5 => ∃ k, k < n ∧ I k x1 x3 x5) x1 x3 x5
set_option maxHeartbeats 4000000 in
theorem wX5_inverseOf_L8 {M : zM} {post : Int32 → Prop}  (hF : CallFix p m c cX5_inverseOf 6 s args wsX5_inverseOf RX5) (hSt : zSt G s) (hret : zRi p l e ({ frames := 1, cells := 0, slots := 0, locals := 30 } : Room) s m args below meth c Q cX5_inverseOf G true O (fun r M1 => M1 = M ∧ post r)) (x1 : Int64) (x3 : Int64) (x5 : Int32) (H : Heap) (locs : List Loc) (ls : Array Slot) (hH : zH G true s H locs M O) (hl : lv_has ls 6 [(1, .long x1), (3, .long x3), (5, .int x5)]) (h : pX5_inverseOf_L8 post x1 x3 x5) : W p l e ({ frames := 1, cells := 0, slots := 0, locals := 30 } : Room) s m args below meth c H locs 0 0 Q (F0 m 8 ls []) := by
  obtain ⟨I, ⟨n, hI⟩, hs⟩ := h
  have key : ∀ (n : Nat) (x1 : Int64) (x3 : Int64) (x5 : Int32) (H : Heap) (locs : List Loc) (ls : Array Slot), I n x1 x3 x5 → zH G true s H locs M O → lv_has ls 6 [(1, .long x1), (3, .long x3), (5, .int x5)] → W p l e ({ frames := 1, cells := 0, slots := 0, locals := 30 } : Room) s m args below meth c H locs 0 0 Q (F0 m 8 ls []) := by
    intro n
    induction n using Nat.strongRecOn with
    | _ n ih =>
      intro x1 x3 x5 H locs ls hI hH hl
      exact wX5_inverseOf_b8 hF hSt hret (fun x1 x3 x5 H locs ls h hH hl => by obtain ⟨k, hk, hI⟩ := h; exact ih k hk x1 x3 x5 H locs ls hI hH hl) x1 x3 x5 H locs ls hH hl (hs n x1 x3 x5 hI)
  exact key n x1 x3 x5 H locs ls hI hH hl
def pX5_inverseOf (x0 : Int32) (post : Int32 → Prop) : Prop :=
  pX5_inverseOf_L8 post (x0).toInt64 (1 : Int64) (1 : Int32)
set_option maxHeartbeats 4000000 in
set_option maxRecDepth 100000 in
theorem wX5_inverseOf {M : zM} {post : Int32 → Prop} (hF : CallFix p m c cX5_inverseOf 6 s args wsX5_inverseOf RX5) (hSt : zSt G s) (hret : zRi p l e ({ frames := 1, cells := 0, slots := 0, locals := 30 } : Room) s m args below meth c Q cX5_inverseOf G true O (fun r M1 => M1 = M ∧ post r)) (x0 : Int32) (H : Heap) (locs : List Loc) (ls : Array Slot) (hH : zH G true s H locs M O) (hl : lv_has ls 6 [(0, .int x0)]) (h : pX5_inverseOf x0 post) : W p l e ({ frames := 1, cells := 0, slots := 0, locals := 30 } : Room) s m args below meth c H locs 0 0 Q (F0 m 0 ls []) := by
  obtain ⟨hx, hb, hml, hown, hts⟩ := id hF
  unfold pX5_inverseOf at h
  refine lv_iload_n hx hb dX5_inverseOf_0 rfl (lv_at hl 0 rfl) ?_
  refine lv_i2l hx hb dX5_inverseOf_1 rfl ?_
  refine lv_lstore_n (lv' := [(1, .long (x0).toInt64), (0, .int x0)]) hx hb dX5_inverseOf_2 rfl hl (by decide) rfl (fun ls hl => ?_)
  refine lv_lconst (v := (1 : Int64)) hx hb dX5_inverseOf_3 (by decide) ?_
  refine lv_lstore_n (lv' := [(3, .long (1 : Int64)), (1, .long (x0).toInt64), (0, .int x0)]) hx hb dX5_inverseOf_4 rfl hl (by decide) rfl (fun ls hl => ?_)
  refine lv_iconst (v := (1 : Int32)) hx hb dX5_inverseOf_5 (by decide) ?_
  refine lv_istore (lv' := [(5, .int (1 : Int32)), (3, .long (1 : Int64)), (1, .long (x0).toInt64), (0, .int x0)]) hx hb dX5_inverseOf_6 hl (by decide) rfl (fun ls hl => ?_)
  exact wX5_inverseOf_L8 hF hSt hret (x0).toInt64 (1 : Int64) (1 : Int32) H locs ls hH (lv_sub hl [2, 1, 0] rfl) h
set_option maxRecDepth 100000 in
theorem kX5_inverseOf (l : Launch) (G : zG) (M O : zM) (x0 : Int32) (post : Int32 → Prop) (h : pX5_inverseOf x0 post) : Met l yX5_inverseOf wsX5_inverseOf ({ frames := 1, cells := 0, slots := 0, locals := 30 } : Room) (zPc G true M O [.int x0]) (va_Qi (fun r M1 => M1 = M ∧ post r) (zB G true O) (zAA G)) 0 0 (zAA G) :=
  zmet_i (by decide) rfl (Nat.le_of_ble_eq_true rfl) (fun hF hSt hret H locs ls hH hl => wX5_inverseOf hF hSt hret x0 H locs ls hH hl h)
end
theorem zdX5_inverse : yX5_inverse.cls ≠ "java/lang/invoke/MethodHandle" ∧ yX5_inverse.cls ≠ "java/lang/invoke/VarHandle" ∧ (parseMethodDescriptor yX5_inverse.desc).map (fun d => d.parameters.length) = some 1 := by decide +kernel
-- MixingRelays inverse(I)I
section
variable {p : Program} {l : Launch} {e : Env} {s : State} {m : MethodId} {args : Array Value} {below : List Frame} {meth : Method} {c : Code} {Q : State → Prop} {G : zG} {O : zM}
def pX5_inverse_b20 (post : Int32 → Prop) (t0 : Int32) : Prop :=
  post t0
set_option maxHeartbeats 4000000 in
set_option maxRecDepth 100000 in
theorem wX5_inverse_b20 {M : zM} {post : Int32 → Prop}  (hF : CallFix p m c cX5_inverse 2 s args wsX5_inverse RX5) (hSt : zSt G s) (hret : zRi p l e ({ frames := 2, cells := 0, slots := 0, locals := 55 } : Room) s m args below meth c Q cX5_inverse G true O (fun r M1 => M1 = M ∧ post r)) (t0 : Int32) (H : Heap) (locs : List Loc) (ls : Array Slot) (hH : zH G true s H locs M O) (hl : lv_has ls 2 []) (h : pX5_inverse_b20 post t0) : W p l e ({ frames := 2, cells := 0, slots := 0, locals := 55 } : Room) s m args below meth c H locs 0 0 Q (F0 m 20 ls [.int t0]) := by
  obtain ⟨hx, hb, hml, hown, hts⟩ := id hF
  unfold pX5_inverse_b20 at h
  exact hret _ _ _ _ _ _ dX5_inverse_20 ⟨rfl, h⟩ hH
def pX5_inverse_b18 (post : Int32 → Prop) : Prop :=
  pX5_inverse_b20 post (-2 : Int32)
set_option maxHeartbeats 4000000 in
set_option maxRecDepth 100000 in
theorem wX5_inverse_b18 {M : zM} {post : Int32 → Prop}  (hF : CallFix p m c cX5_inverse 2 s args wsX5_inverse RX5) (hSt : zSt G s) (hret : zRi p l e ({ frames := 2, cells := 0, slots := 0, locals := 55 } : Room) s m args below meth c Q cX5_inverse G true O (fun r M1 => M1 = M ∧ post r))  (H : Heap) (locs : List Loc) (ls : Array Slot) (hH : zH G true s H locs M O) (hl : lv_has ls 2 []) (h : pX5_inverse_b18 post) : W p l e ({ frames := 2, cells := 0, slots := 0, locals := 55 } : Room) s m args below meth c H locs 0 0 Q (F0 m 18 ls []) := by
  obtain ⟨hx, hb, hml, hown, hts⟩ := id hF
  unfold pX5_inverse_b18 at h
  refine lv_bipush (v := (-2 : Int32)) hx hb dX5_inverse_18 (by decide) ?_
  exact wX5_inverse_b20 hF hSt hret (-2 : Int32) H locs ls hH (lv_sub hl [] rfl) h
def pX5_inverse (x1 : Int32) (post : Int32 → Prop) : Prop :=
  pX5_isNumber x1 (fun r1 => (r1 = 0 → pX5_inverse_b18 post) ∧ (¬ (r1 = 0) → (x1 = 0 → pX5_inverse_b18 post) ∧ (¬ (x1 = 0) → pX5_inverseOf x1 (fun r12 => pX5_inverse_b20 post r12))))
set_option maxHeartbeats 4000000 in
set_option maxRecDepth 100000 in
theorem wX5_inverse {M : zM} {post : Int32 → Prop} (hF : CallFix p m c cX5_inverse 2 s args wsX5_inverse RX5) (hSt : zSt G s) (hret : zRi p l e ({ frames := 2, cells := 0, slots := 0, locals := 55 } : Room) s m args below meth c Q cX5_inverse G true O (fun r M1 => M1 = M ∧ post r)) (x1 : Int32) (H : Heap) (locs : List Loc) (ls : Array Slot) (hH : zH G true s H locs M O) (hl : lv_has ls 2 [(0, .ref (G.1 0)), (1, .int x1)]) (h : pX5_inverse x1 post) : W p l e ({ frames := 2, cells := 0, slots := 0, locals := 55 } : Room) s m args below meth c H locs 0 0 Q (F0 m 0 ls []) := by
  obtain ⟨hx, hb, hml, hown, hts⟩ := id hF
  unfold pX5_inverse at h
  refine lv_iload_n hx hb dX5_inverse_0 rfl (lv_at hl 1 rfl) ?_
  refine zcalliP hH (va_runS (As := [.int x1]) (rest := []) hF (kX5_isNumber l G M O x1 _ h) (va_cwS 1 hts gX5_inverse_X5_isNumber rfl rfl rfl zdX5_isNumber ⟨Nat.le_of_ble_eq_true rfl, Nat.le_of_ble_eq_true rfl⟩) (zpreS hSt hH [.int x1]) rfl rfl hl.1 rfl (lv_room (Nat.le_of_ble_eq_true rfl)) dX5_inverse_1 ⟨Nat.zero_le _, Nat.zero_le _⟩) (fun r1 H locs h hH => ?_)
  refine lv_if_eq (tgt := 18) hx hb dX5_inverse_4 (by decide) (fun q4 => ?_) (fun q4 => ?_)
  · have h := h.1 q4
    exact wX5_inverse_b18 hF hSt hret  H locs ls hH (lv_sub hl [] rfl) h
  · have h := h.2 q4
    refine lv_iload_n hx hb dX5_inverse_7 rfl (lv_at hl 1 rfl) ?_
    refine lv_if_eq (tgt := 18) hx hb dX5_inverse_8 (by decide) (fun q8 => ?_) (fun q8 => ?_)
    · have h := h.1 q8
      exact wX5_inverse_b18 hF hSt hret  H locs ls hH (lv_sub hl [] rfl) h
    · have h := h.2 q8
      refine lv_iload_n hx hb dX5_inverse_11 rfl (lv_at hl 1 rfl) ?_
      refine zcalliP hH (va_runS (As := [.int x1]) (rest := []) hF (kX5_inverseOf l G M O x1 _ h) (va_cwS 1 hts gX5_inverse_X5_inverseOf rfl rfl rfl zdX5_inverseOf ⟨Nat.le_of_ble_eq_true rfl, Nat.le_of_ble_eq_true rfl⟩) (zpreS hSt hH [.int x1]) rfl rfl hl.1 rfl (lv_room (Nat.le_of_ble_eq_true rfl)) dX5_inverse_12 ⟨Nat.zero_le _, Nat.zero_le _⟩) (fun r12 H locs h hH => ?_)
      refine lv_goto (tgt := 20) hx hb dX5_inverse_15 (by decide) ?_
      exact wX5_inverse_b20 hF hSt hret r12 H locs ls hH (lv_sub hl [] rfl) h
set_option maxRecDepth 100000 in
theorem kX5_inverse (l : Launch) (G : zG) (M O : zM) (x1 : Int32) (post : Int32 → Prop) (h : pX5_inverse x1 post) : Met l yX5_inverse wsX5_inverse ({ frames := 2, cells := 0, slots := 0, locals := 55 } : Room) (zPc G true M O [.ref (G.1 0), .int x1]) (va_Qi (fun r M1 => M1 = M ∧ post r) (zB G true O) (zAA G)) 0 0 (zAA G) :=
  zmet_i (by decide) rfl (Nat.le_of_ble_eq_true rfl) (fun hF hSt hret H locs ls hH hl => wX5_inverse hF hSt hret x1 H locs ls hH hl h)
end
theorem znX5_refusalOf_X5 : ∀ w ∈ wsX50, w ∈ wsX5_refusalOf := fun _ h => List.mem_cons_of_mem _ (List.mem_append_left _ (List.mem_append_right _ h))
theorem znX5_refusalOf_X2 : ∀ w ∈ wsX20, w ∈ wsX5_refusalOf := fun _ h => List.mem_cons_of_mem _ (List.mem_append_right _ h)
theorem zdX5_refusalOf : yX5_refusalOf.cls ≠ "java/lang/invoke/MethodHandle" ∧ yX5_refusalOf.cls ≠ "java/lang/invoke/VarHandle" ∧ (parseMethodDescriptor yX5_refusalOf.desc).map (fun d => d.parameters.length) = some 1 := by decide +kernel
-- MixingRelays refusalOf(I)I
section
variable {p : Program} {l : Launch} {e : Env} {s : State} {m : MethodId} {args : Array Value} {below : List Frame} {meth : Method} {c : Code} {Q : State → Prop} {G : zG} {O : zM}
def pX5_refusalOf_b23 (M : zM) (post : Int32 → Prop) (t0 : Int32) : Prop :=
  post t0
set_option maxHeartbeats 4000000 in
set_option maxRecDepth 100000 in
theorem wX5_refusalOf_b23 {M : zM} {post : Int32 → Prop}  (hF : CallFix p m c cX5_refusalOf 2 s args wsX5_refusalOf RX5) (hSt : zSt G s) (hret : zRi p l e ({ frames := 1, cells := 0, slots := 0, locals := 21 } : Room) s m args below meth c Q cX5_refusalOf G true O (fun r M1 => M1 = M ∧ post r)) (t0 : Int32) (H : Heap) (locs : List Loc) (ls : Array Slot) (hH : zH G true s H locs M O) (hl : lv_has ls 2 []) (h : pX5_refusalOf_b23 M post t0) : W p l e ({ frames := 1, cells := 0, slots := 0, locals := 21 } : Room) s m args below meth c H locs 0 0 Q (F0 m 23 ls [.int t0]) := by
  obtain ⟨hx, hb, hml, hown, hts⟩ := id hF
  unfold pX5_refusalOf_b23 at h
  exact hret _ _ _ _ _ _ dX5_refusalOf_23 ⟨rfl, h⟩ hH
def pX5_refusalOf (M : zM) (x1 : Int32) (post : Int32 → Prop) : Prop :=
  pX2_isRelay M x1 (fun r5 => (¬ (r5 = 0) → (¬ (x1 = 0) → pX5_refusalOf_b23 M post (0 : Int32)) ∧ (x1 = 0 → pX5_refusalOf_b23 M post (-2 : Int32))) ∧ (r5 = 0 → post (-1 : Int32)))
set_option maxHeartbeats 4000000 in
set_option maxRecDepth 100000 in
theorem wX5_refusalOf {M : zM} {post : Int32 → Prop} (hF : CallFix p m c cX5_refusalOf 2 s args wsX5_refusalOf RX5) (hSt : zSt G s) (hret : zRi p l e ({ frames := 1, cells := 0, slots := 0, locals := 21 } : Room) s m args below meth c Q cX5_refusalOf G true O (fun r M1 => M1 = M ∧ post r)) (x1 : Int32) (H : Heap) (locs : List Loc) (ls : Array Slot) (hH : zH G true s H locs M O) (hl : lv_has ls 2 [(0, .ref (G.1 0)), (1, .int x1)]) (h : pX5_refusalOf M x1 post) : W p l e ({ frames := 1, cells := 0, slots := 0, locals := 21 } : Room) s m args below meth c H locs 0 0 Q (F0 m 0 ls []) := by
  obtain ⟨hx, hb, hml, hown, hts⟩ := id hF
  unfold pX5_refusalOf at h
  refine lv_aload_n hx hb dX5_refusalOf_0 rfl (lv_at hl 0 rfl) ?_
  refine zget (v := .ref (G.1 1)) hF hSt hH 0 (by decide) rfl (zE_0 _ _ _) (C := RX5) (T := TX5) (N := 5) rfl znX5_refusalOf_X5 0 (by decide) (List.mem_of_getElem? (i := 1) rfl) rfl dX5_refusalOf_1 ?_
  refine lv_iload_n hx hb dX5_refusalOf_4 rfl (lv_at hl 1 rfl) ?_
  refine zcalliP hH (va_runV (As := [.int x1]) (rest := []) hF (kX2_isRelay l G M O x1 _ h) (cwV 1 hts gX5_refusalOf_X2_isRelay rfl rfl rfl ⟨rfl, zdX2_isRelay⟩ ⟨Nat.le_of_ble_eq_true rfl, Nat.le_of_ble_eq_true rfl⟩) (zpreV hSt hH 1 (by decide) rfl (zE_1 _ _ _) (q := (RX2, TX2, 16)) rfl [.int x1]) rfl rfl hl.1 rfl (lv_room (Nat.le_of_ble_eq_true rfl)) dX5_refusalOf_5 ⟨Nat.zero_le _, Nat.zero_le _⟩) (fun r5 H locs h hH => ?_)
  refine lv_if_ne (tgt := 13) hx hb dX5_refusalOf_8 (by decide) (fun q8 => ?_) (fun q8 => ?_)
  · have h := h.1 q8
    refine lv_iload_n hx hb dX5_refusalOf_13 rfl (lv_at hl 1 rfl) ?_
    refine lv_if_ne (tgt := 22) hx hb dX5_refusalOf_14 (by decide) (fun q14 => ?_) (fun q14 => ?_)
    · have h := h.1 q14
      refine lv_iconst (v := (0 : Int32)) hx hb dX5_refusalOf_22 (by decide) ?_
      exact wX5_refusalOf_b23 hF hSt hret (0 : Int32) H locs ls hH (lv_sub hl [] rfl) h
    · have h := h.2 q14
      refine lv_bipush (v := (-2 : Int32)) hx hb dX5_refusalOf_17 (by decide) ?_
      refine lv_goto (tgt := 23) hx hb dX5_refusalOf_19 (by decide) ?_
      exact wX5_refusalOf_b23 hF hSt hret (-2 : Int32) H locs ls hH (lv_sub hl [] rfl) h
  · have h := h.2 q8
    refine lv_iconst (v := (-1 : Int32)) hx hb dX5_refusalOf_11 (by decide) ?_
    exact hret _ _ _ _ _ _ dX5_refusalOf_12 ⟨rfl, h⟩ hH
set_option maxRecDepth 100000 in
theorem kX5_refusalOf (l : Launch) (G : zG) (M O : zM) (x1 : Int32) (post : Int32 → Prop) (h : pX5_refusalOf M x1 post) : Met l yX5_refusalOf wsX5_refusalOf ({ frames := 1, cells := 0, slots := 0, locals := 21 } : Room) (zPc G true M O [.ref (G.1 0), .int x1]) (va_Qi (fun r M1 => M1 = M ∧ post r) (zB G true O) (zAA G)) 0 0 (zAA G) :=
  zmet_i (by decide) rfl (Nat.le_of_ble_eq_true rfl) (fun hF hSt hret H locs ls hH hl => wX5_refusalOf hF hSt hret x1 H locs ls hH hl h)
end
theorem znX4_reachBy_X4 : ∀ w ∈ wsX40, w ∈ wsX4_reachBy := fun _ h => List.mem_cons_of_mem _ (List.mem_append_left _ (List.mem_append_right _ h))
theorem znX4_reachBy_X2 : ∀ w ∈ wsX20, w ∈ wsX4_reachBy := fun _ h => List.mem_cons_of_mem _ (List.mem_append_right _ h)
theorem zdX4_reachBy : yX4_reachBy.cls ≠ "java/lang/invoke/MethodHandle" ∧ yX4_reachBy.cls ≠ "java/lang/invoke/VarHandle" ∧ (parseMethodDescriptor yX4_reachBy.desc).map (fun d => d.parameters.length) = some 1 := by decide +kernel
-- MixingRelays$Ways reachBy(I)V
section
variable {p : Program} {l : Launch} {e : Env} {s : State} {m : MethodId} {args : Array Value} {below : List Frame} {meth : Method} {c : Code} {Q : State → Prop} {G : zG} {O : zM}
def pX4_reachBy_b116 (post : zM → Prop) (M : zM) : Prop :=
  post M
set_option maxHeartbeats 4000000 in
set_option maxRecDepth 100000 in
theorem wX4_reachBy_b116 {post : zM → Prop}  (hF : CallFix p m c cX4_reachBy 5 s args wsX4_reachBy RX4) (hSt : zSt G s) (hret : zRv p l e ({ frames := 1, cells := 0, slots := 0, locals := 21 } : Room) s m args below meth c Q cX4_reachBy G true O post) (M : zM) (H : Heap) (locs : List Loc) (ls : Array Slot) (hH : zH G true s H locs M O) (hl : lv_has ls 5 []) (h : pX4_reachBy_b116 post M) : W p l e ({ frames := 1, cells := 0, slots := 0, locals := 21 } : Room) s m args below meth c H locs 0 0 Q (F0 m 116 ls []) := by
  obtain ⟨hx, hb, hml, hown, hts⟩ := id hF
  unfold pX4_reachBy_b116 at h
  exact hret _ _ _ _ _ dX4_reachBy_116 h hH
def pX4_reachBy_b69 (post : zM → Prop) (x1 : Int32) (x3 : Int32) (t0 : Int32) (M : zM) : Prop :=
  pX5_flag (M.1 2 3) x3 (fun r76 => (¬ (r76 = (1 : Int32)) → pX4_reachBy_b116 post M) ∧ (r76 = (1 : Int32) → pX5_flag (M.1 2 3) t0 (fun r89 => (¬ (r89 = 0) → pX4_reachBy_b116 post M) ∧ (r89 = 0 → vp_in t0 12 ∧ pX4_reachBy_b116 post (zsi (zsi M 2 3 ((M.1 2 3) ||| ((1 : Int32) <<< (t0 &&& 31)))) 16 t0.toNatClampNeg x1)))))
set_option maxHeartbeats 4000000 in
set_option maxRecDepth 100000 in
theorem wX4_reachBy_b69 {post : zM → Prop}  (hF : CallFix p m c cX4_reachBy 5 s args wsX4_reachBy RX4) (hSt : zSt G s) (hret : zRv p l e ({ frames := 1, cells := 0, slots := 0, locals := 21 } : Room) s m args below meth c Q cX4_reachBy G true O post) (x1 : Int32) (x3 : Int32) (t0 : Int32) (M : zM) (H : Heap) (locs : List Loc) (ls : Array Slot) (hH : zH G true s H locs M O) (hl : lv_has ls 5 [(0, .ref (G.1 2)), (1, .int x1), (3, .int x3)]) (h : pX4_reachBy_b69 post x1 x3 t0 M) : W p l e ({ frames := 1, cells := 0, slots := 0, locals := 21 } : Room) s m args below meth c H locs 0 0 Q (F0 m 69 ls [.int t0]) := by
  obtain ⟨hx, hb, hml, hown, hts⟩ := id hF
  unfold pX4_reachBy_b69 at h
  refine lv_istore (lv' := [(4, .int t0), (0, .ref (G.1 2)), (1, .int x1), (3, .int x3)]) hx hb dX4_reachBy_69 hl (by decide) rfl (fun ls hl => ?_)
  refine lv_aload_n hx hb dX4_reachBy_71 rfl (lv_at hl 1 rfl) ?_
  refine zget (v := .int (M.1 2 3)) hF hSt hH 2 (by decide) rfl (zE_2 _ _ _) (C := RX4) (T := TX4) (N := 4) rfl znX4_reachBy_X4 3 (by decide) (List.mem_of_getElem? (i := 5) rfl) rfl dX4_reachBy_72 ?_
  refine lv_iload_n hx hb dX4_reachBy_75 rfl (lv_at hl 3 rfl) ?_
  refine zcalliP hH (va_runSN (As := [.int (M.1 2 3), .int x3]) (rest := []) hF (kX5_flag l G M O (M.1 2 3) x3 _ h) ⟨va_cnB 2 hts gX4_reachBy_X5_flag_n34 rfl rfl rfl (hSt.2.2.1 _ zNest_X4_34) (hts _ (List.mem_of_getElem? (i := 8) rfl)) zdX5_flag ⟨Nat.le_of_ble_eq_true rfl, Nat.le_of_ble_eq_true rfl⟩, hts _ (List.mem_of_getElem? (i := 7) rfl), trivial⟩ (zpreS hSt hH [.int (M.1 2 3), .int x3]) rfl rfl hl.1 rfl (lv_room (Nat.le_of_ble_eq_true rfl)) dX4_reachBy_76 ⟨Nat.zero_le _, Nat.zero_le _⟩) (fun r76 H locs h hH => ?_)
  refine lv_iconst (v := (1 : Int32)) hx hb dX4_reachBy_79 (by decide) ?_
  refine lv_icmp_ne (tgt := 116) hx hb dX4_reachBy_80 (by decide) (fun q80 => ?_) (fun q80 => ?_)
  · have h := h.1 q80
    exact wX4_reachBy_b116 hF hSt hret M H locs ls hH (lv_sub hl [] rfl) h
  · have h := h.2 q80
    refine lv_aload_n hx hb dX4_reachBy_83 rfl (lv_at hl 1 rfl) ?_
    refine zget (v := .int (M.1 2 3)) hF hSt hH 2 (by decide) rfl (zE_2 _ _ _) (C := RX4) (T := TX4) (N := 4) rfl znX4_reachBy_X4 3 (by decide) (List.mem_of_getElem? (i := 5) rfl) rfl dX4_reachBy_84 ?_
    refine lv_iload hx hb dX4_reachBy_87 (lv_at hl 0 rfl) ?_
    refine zcalliP hH (va_runSN (As := [.int (M.1 2 3), .int t0]) (rest := []) hF (kX5_flag l G M O (M.1 2 3) t0 _ h) ⟨va_cnB 2 hts gX4_reachBy_X5_flag_n34 rfl rfl rfl (hSt.2.2.1 _ zNest_X4_34) (hts _ (List.mem_of_getElem? (i := 8) rfl)) zdX5_flag ⟨Nat.le_of_ble_eq_true rfl, Nat.le_of_ble_eq_true rfl⟩, hts _ (List.mem_of_getElem? (i := 7) rfl), trivial⟩ (zpreS hSt hH [.int (M.1 2 3), .int t0]) rfl rfl hl.1 rfl (lv_room (Nat.le_of_ble_eq_true rfl)) dX4_reachBy_89 ⟨Nat.zero_le _, Nat.zero_le _⟩) (fun r89 H locs h hH => ?_)
    refine lv_if_ne (tgt := 116) hx hb dX4_reachBy_92 (by decide) (fun q92 => ?_) (fun q92 => ?_)
    · have h := h.1 q92
      exact wX4_reachBy_b116 hF hSt hret M H locs ls hH (lv_sub hl [] rfl) h
    · have h := h.2 q92
      refine lv_aload_n hx hb dX4_reachBy_95 rfl (lv_at hl 1 rfl) ?_
      refine lv_dup hx hb dX4_reachBy_96 rfl ?_
      refine zget (v := .int (M.1 2 3)) hF hSt hH 2 (by decide) rfl (zE_2 _ _ _) (C := RX4) (T := TX4) (N := 4) rfl znX4_reachBy_X4 3 (by decide) (List.mem_of_getElem? (i := 5) rfl) rfl dX4_reachBy_97 ?_
      refine lv_iconst (v := (1 : Int32)) hx hb dX4_reachBy_100 (by decide) ?_
      refine lv_iload hx hb dX4_reachBy_101 (lv_at hl 0 rfl) ?_
      refine lv_ishl hx hb dX4_reachBy_103 ?_
      refine lv_ior hx hb dX4_reachBy_104 ?_
      refine zput hF hSt hH 2 (by decide) rfl (zE_2 _ _ _) (C := RX4) (T := TX4) (N := 4) rfl znX4_reachBy_X4 tyX4 tyX4_ok nmX4 3 (by decide) (List.mem_of_getElem? (i := 5) rfl) rfl (by decide +kernel) (Nat.le_of_ble_eq_true rfl) (x := ((M.1 2 3) ||| ((1 : Int32) <<< (t0 &&& 31)))) rfl dX4_reachBy_105 (fun H locs hH => ?_)
      refine lv_aload_n hx hb dX4_reachBy_108 rfl (lv_at hl 1 rfl) ?_
      refine zget (v := .ref (G.1 16)) hF hSt hH 2 (by decide) rfl (zE_2 _ _ _) (C := RX4) (T := TX4) (N := 4) rfl znX4_reachBy_X4 1 (by decide) (List.mem_of_getElem? (i := 6) rfl) rfl dX4_reachBy_109 ?_
      refine lv_iload hx hb dX4_reachBy_112 (lv_at hl 0 rfl) ?_
      refine lv_iload_n hx hb dX4_reachBy_114 rfl (lv_at hl 2 rfl) ?_
      obtain ⟨q115, h⟩ := h
      refine zast hF hSt hH 16 (by decide) rfl (zE_16 _) (x := x1) q115 dX4_reachBy_115 (fun H locs hH => ?_)
      exact wX4_reachBy_b116 hF hSt hret (zsi (zsi M 2 3 ((M.1 2 3) ||| ((1 : Int32) <<< (t0 &&& 31)))) 16 t0.toNatClampNeg x1) H locs ls hH (lv_sub hl [] rfl) h
def pX4_reachBy_b43 (post : zM → Prop) (x1 : Int32) (x2 : Int32) (t0 : Int32) (M : zM) : Prop :=
  (x2 = 0 → vp_in x1 30 ∧ pX4_reachBy_b69 post x1 t0 (M.1 7 x1.toNatClampNeg) M) ∧ (¬ (x2 = 0) → vp_in x1 30 ∧ pX4_reachBy_b69 post x1 t0 (M.1 6 x1.toNatClampNeg) M)
set_option maxHeartbeats 4000000 in
set_option maxRecDepth 100000 in
theorem wX4_reachBy_b43 {post : zM → Prop}  (hF : CallFix p m c cX4_reachBy 5 s args wsX4_reachBy RX4) (hSt : zSt G s) (hret : zRv p l e ({ frames := 1, cells := 0, slots := 0, locals := 21 } : Room) s m args below meth c Q cX4_reachBy G true O post) (x1 : Int32) (x2 : Int32) (t0 : Int32) (M : zM) (H : Heap) (locs : List Loc) (ls : Array Slot) (hH : zH G true s H locs M O) (hl : lv_has ls 5 [(0, .ref (G.1 2)), (1, .int x1), (2, .int x2)]) (h : pX4_reachBy_b43 post x1 x2 t0 M) : W p l e ({ frames := 1, cells := 0, slots := 0, locals := 21 } : Room) s m args below meth c H locs 0 0 Q (F0 m 43 ls [.int t0]) := by
  obtain ⟨hx, hb, hml, hown, hts⟩ := id hF
  unfold pX4_reachBy_b43 at h
  refine lv_istore_n (lv' := [(3, .int t0), (0, .ref (G.1 2)), (1, .int x1), (2, .int x2)]) hx hb dX4_reachBy_43 rfl hl (by decide) rfl (fun ls hl => ?_)
  refine lv_iload_n hx hb dX4_reachBy_44 rfl (lv_at hl 3 rfl) ?_
  refine lv_if_eq (tgt := 60) hx hb dX4_reachBy_45 (by decide) (fun q45 => ?_) (fun q45 => ?_)
  · have h := h.1 q45
    refine lv_aload_n hx hb dX4_reachBy_60 rfl (lv_at hl 1 rfl) ?_
    refine zget (v := .ref (G.1 1)) hF hSt hH 2 (by decide) rfl (zE_2 _ _ _) (C := RX4) (T := TX4) (N := 4) rfl znX4_reachBy_X4 0 (by decide) (List.mem_of_getElem? (i := 2) rfl) rfl dX4_reachBy_61 ?_
    refine zget (v := .ref (G.1 7)) hF hSt hH 1 (by decide) rfl (zE_1 _ _ _) (C := RX2) (T := TX2) (N := 16) rfl znX4_reachBy_X2 7 (by decide) (List.mem_of_getElem? (i := 3) rfl) rfl dX4_reachBy_64 ?_
    refine lv_iload_n hx hb dX4_reachBy_67 rfl (lv_at hl 2 rfl) ?_
    obtain ⟨q68, h⟩ := h
    refine zald hF hSt hH 7 (by decide) rfl (zE_7 _ _ _) q68 dX4_reachBy_68 ?_
    exact wX4_reachBy_b69 hF hSt hret x1 t0 (M.1 7 x1.toNatClampNeg) M H locs ls hH (lv_sub hl [1, 2, 0] rfl) h
  · have h := h.2 q45
    refine lv_aload_n hx hb dX4_reachBy_48 rfl (lv_at hl 1 rfl) ?_
    refine zget (v := .ref (G.1 1)) hF hSt hH 2 (by decide) rfl (zE_2 _ _ _) (C := RX4) (T := TX4) (N := 4) rfl znX4_reachBy_X4 0 (by decide) (List.mem_of_getElem? (i := 2) rfl) rfl dX4_reachBy_49 ?_
    refine zget (v := .ref (G.1 6)) hF hSt hH 1 (by decide) rfl (zE_1 _ _ _) (C := RX2) (T := TX2) (N := 16) rfl znX4_reachBy_X2 6 (by decide) (List.mem_of_getElem? (i := 4) rfl) rfl dX4_reachBy_52 ?_
    refine lv_iload_n hx hb dX4_reachBy_55 rfl (lv_at hl 2 rfl) ?_
    obtain ⟨q56, h⟩ := h
    refine zald hF hSt hH 6 (by decide) rfl (zE_6 _ _ _) q56 dX4_reachBy_56 ?_
    refine lv_goto (tgt := 69) hx hb dX4_reachBy_57 (by decide) ?_
    exact wX4_reachBy_b69 hF hSt hret x1 t0 (M.1 6 x1.toNatClampNeg) M H locs ls hH (lv_sub hl [1, 2, 0] rfl) h
def pX4_reachBy_b17 (post : zM → Prop) (x1 : Int32) (t0 : Int32) (M : zM) : Prop :=
  (t0 = 0 → vp_in x1 30 ∧ pX4_reachBy_b43 post x1 t0 (M.1 6 x1.toNatClampNeg) M) ∧ (¬ (t0 = 0) → vp_in x1 30 ∧ pX4_reachBy_b43 post x1 t0 (M.1 7 x1.toNatClampNeg) M)
set_option maxHeartbeats 4000000 in
set_option maxRecDepth 100000 in
theorem wX4_reachBy_b17 {post : zM → Prop}  (hF : CallFix p m c cX4_reachBy 5 s args wsX4_reachBy RX4) (hSt : zSt G s) (hret : zRv p l e ({ frames := 1, cells := 0, slots := 0, locals := 21 } : Room) s m args below meth c Q cX4_reachBy G true O post) (x1 : Int32) (t0 : Int32) (M : zM) (H : Heap) (locs : List Loc) (ls : Array Slot) (hH : zH G true s H locs M O) (hl : lv_has ls 5 [(0, .ref (G.1 2)), (1, .int x1)]) (h : pX4_reachBy_b17 post x1 t0 M) : W p l e ({ frames := 1, cells := 0, slots := 0, locals := 21 } : Room) s m args below meth c H locs 0 0 Q (F0 m 17 ls [.int t0]) := by
  obtain ⟨hx, hb, hml, hown, hts⟩ := id hF
  unfold pX4_reachBy_b17 at h
  refine lv_istore_n (lv' := [(2, .int t0), (0, .ref (G.1 2)), (1, .int x1)]) hx hb dX4_reachBy_17 rfl hl (by decide) rfl (fun ls hl => ?_)
  refine lv_iload_n hx hb dX4_reachBy_18 rfl (lv_at hl 0 rfl) ?_
  refine lv_if_eq (tgt := 34) hx hb dX4_reachBy_19 (by decide) (fun q19 => ?_) (fun q19 => ?_)
  · have h := h.1 q19
    refine lv_aload_n hx hb dX4_reachBy_34 rfl (lv_at hl 1 rfl) ?_
    refine zget (v := .ref (G.1 1)) hF hSt hH 2 (by decide) rfl (zE_2 _ _ _) (C := RX4) (T := TX4) (N := 4) rfl znX4_reachBy_X4 0 (by decide) (List.mem_of_getElem? (i := 2) rfl) rfl dX4_reachBy_35 ?_
    refine zget (v := .ref (G.1 6)) hF hSt hH 1 (by decide) rfl (zE_1 _ _ _) (C := RX2) (T := TX2) (N := 16) rfl znX4_reachBy_X2 6 (by decide) (List.mem_of_getElem? (i := 4) rfl) rfl dX4_reachBy_38 ?_
    refine lv_iload_n hx hb dX4_reachBy_41 rfl (lv_at hl 2 rfl) ?_
    obtain ⟨q42, h⟩ := h
    refine zald hF hSt hH 6 (by decide) rfl (zE_6 _ _ _) q42 dX4_reachBy_42 ?_
    exact wX4_reachBy_b43 hF hSt hret x1 t0 (M.1 6 x1.toNatClampNeg) M H locs ls hH (lv_sub hl [1, 2, 0] rfl) h
  · have h := h.2 q19
    refine lv_aload_n hx hb dX4_reachBy_22 rfl (lv_at hl 1 rfl) ?_
    refine zget (v := .ref (G.1 1)) hF hSt hH 2 (by decide) rfl (zE_2 _ _ _) (C := RX4) (T := TX4) (N := 4) rfl znX4_reachBy_X4 0 (by decide) (List.mem_of_getElem? (i := 2) rfl) rfl dX4_reachBy_23 ?_
    refine zget (v := .ref (G.1 7)) hF hSt hH 1 (by decide) rfl (zE_1 _ _ _) (C := RX2) (T := TX2) (N := 16) rfl znX4_reachBy_X2 7 (by decide) (List.mem_of_getElem? (i := 3) rfl) rfl dX4_reachBy_26 ?_
    refine lv_iload_n hx hb dX4_reachBy_29 rfl (lv_at hl 2 rfl) ?_
    obtain ⟨q30, h⟩ := h
    refine zald hF hSt hH 7 (by decide) rfl (zE_7 _ _ _) q30 dX4_reachBy_30 ?_
    refine lv_goto (tgt := 43) hx hb dX4_reachBy_31 (by decide) ?_
    exact wX4_reachBy_b43 hF hSt hret x1 t0 (M.1 7 x1.toNatClampNeg) M H locs ls hH (lv_sub hl [1, 2, 0] rfl) h
def pX4_reachBy (M : zM) (x1 : Int32) (post : zM → Prop) : Prop :=
  pX5_flag (M.1 2 2) x1 (fun r5 => (¬ (r5 = (1 : Int32)) → pX4_reachBy_b17 post x1 (0 : Int32) M) ∧ (r5 = (1 : Int32) → pX4_reachBy_b17 post x1 (1 : Int32) M))
set_option maxHeartbeats 4000000 in
set_option maxRecDepth 100000 in
theorem wX4_reachBy {M : zM} {post : zM → Prop} (hF : CallFix p m c cX4_reachBy 5 s args wsX4_reachBy RX4) (hSt : zSt G s) (hret : zRv p l e ({ frames := 1, cells := 0, slots := 0, locals := 21 } : Room) s m args below meth c Q cX4_reachBy G true O post) (x1 : Int32) (H : Heap) (locs : List Loc) (ls : Array Slot) (hH : zH G true s H locs M O) (hl : lv_has ls 5 [(0, .ref (G.1 2)), (1, .int x1)]) (h : pX4_reachBy M x1 post) : W p l e ({ frames := 1, cells := 0, slots := 0, locals := 21 } : Room) s m args below meth c H locs 0 0 Q (F0 m 0 ls []) := by
  obtain ⟨hx, hb, hml, hown, hts⟩ := id hF
  unfold pX4_reachBy at h
  refine lv_aload_n hx hb dX4_reachBy_0 rfl (lv_at hl 0 rfl) ?_
  refine zget (v := .int (M.1 2 2)) hF hSt hH 2 (by decide) rfl (zE_2 _ _ _) (C := RX4) (T := TX4) (N := 4) rfl znX4_reachBy_X4 2 (by decide) (List.mem_of_getElem? (i := 1) rfl) rfl dX4_reachBy_1 ?_
  refine lv_iload_n hx hb dX4_reachBy_4 rfl (lv_at hl 1 rfl) ?_
  refine zcalliP hH (va_runSN (As := [.int (M.1 2 2), .int x1]) (rest := []) hF (kX5_flag l G M O (M.1 2 2) x1 _ h) ⟨va_cnB 2 hts gX4_reachBy_X5_flag_n34 rfl rfl rfl (hSt.2.2.1 _ zNest_X4_34) (hts _ (List.mem_of_getElem? (i := 8) rfl)) zdX5_flag ⟨Nat.le_of_ble_eq_true rfl, Nat.le_of_ble_eq_true rfl⟩, hts _ (List.mem_of_getElem? (i := 7) rfl), trivial⟩ (zpreS hSt hH [.int (M.1 2 2), .int x1]) rfl rfl hl.1 rfl (lv_room (Nat.le_of_ble_eq_true rfl)) dX4_reachBy_5 ⟨Nat.zero_le _, Nat.zero_le _⟩) (fun r5 H locs h hH => ?_)
  refine lv_iconst (v := (1 : Int32)) hx hb dX4_reachBy_8 (by decide) ?_
  refine lv_icmp_ne (tgt := 16) hx hb dX4_reachBy_9 (by decide) (fun q9 => ?_) (fun q9 => ?_)
  · have h := h.1 q9
    refine lv_iconst (v := (0 : Int32)) hx hb dX4_reachBy_16 (by decide) ?_
    exact wX4_reachBy_b17 hF hSt hret x1 (0 : Int32) M H locs ls hH (lv_sub hl [0, 1] rfl) h
  · have h := h.2 q9
    refine lv_iconst (v := (1 : Int32)) hx hb dX4_reachBy_12 (by decide) ?_
    refine lv_goto (tgt := 17) hx hb dX4_reachBy_13 (by decide) ?_
    exact wX4_reachBy_b17 hF hSt hret x1 (1 : Int32) M H locs ls hH (lv_sub hl [0, 1] rfl) h
set_option maxRecDepth 100000 in
theorem kX4_reachBy (l : Launch) (G : zG) (M O : zM) (x1 : Int32) (post : zM → Prop) (h : pX4_reachBy M x1 post) : Met l yX4_reachBy wsX4_reachBy ({ frames := 1, cells := 0, slots := 0, locals := 21 } : Room) (zPc G true M O [.ref (G.1 2), .int x1]) (va_Qv post (zB G true O) (zAA G)) 0 0 (zAA G) :=
  zmet_v (by decide) rfl (Nat.le_of_ble_eq_true rfl) (fun hF hSt hret H locs ls hH hl => wX4_reachBy hF hSt hret x1 H locs ls hH hl h)
end
