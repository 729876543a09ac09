theorem znX5_end_X5 : ∀ w ∈ wsX50, w ∈ wsX5_end := fun _ h => List.mem_cons_of_mem _ (List.mem_append_left _ (List.mem_append_right _ h))
theorem znX5_end_X2 : ∀ w ∈ wsX20, w ∈ wsX5_end := fun _ h => List.mem_cons_of_mem _ (List.mem_append_right _ h)
theorem zdX5_end : yX5_end.cls ≠ "java/lang/invoke/MethodHandle" ∧ yX5_end.cls ≠ "java/lang/invoke/VarHandle" ∧ (parseMethodDescriptor yX5_end.desc).map (fun d => d.parameters.length) = some 2 := by decide +kernel
-- MixingRelays end(II)I
section
variable {p : Program} {l : Launch} {e : Env} {s : State} {m : MethodId} {args : Array Value} {below : List Frame} {meth : Method} {c : Code} {Q : State → Prop} {G : zG} {O : zM}
def pX5_end_b24 (post : Int32 → zM → Prop) (M : zM) : Prop :=
  post (-2 : Int32) M
set_option maxHeartbeats 4000000 in
set_option maxRecDepth 100000 in
theorem wX5_end_b24 {post : Int32 → zM → Prop}  (hF : CallFix p m c cX5_end 4 s args wsX5_end RX5) (hSt : zSt G s) (hret : zRi p l e ({ frames := 1, cells := 0, slots := 0, locals := 22 } : Room) s m args below meth c Q cX5_end G true O post) (M : zM) (H : Heap) (locs : List Loc) (ls : Array Slot) (hH : zH G true s H locs M O) (hl : lv_has ls 4 []) (h : pX5_end_b24 post M) : W p l e ({ frames := 1, cells := 0, slots := 0, locals := 22 } : Room) s m args below meth c H locs 0 0 Q (F0 m 24 ls []) := by
  obtain ⟨hx, hb, hml, hown, hts⟩ := id hF
  unfold pX5_end_b24 at h
  refine lv_bipush (v := (-2 : Int32)) hx hb dX5_end_24 (by decide) ?_
  exact hret _ _ _ _ _ _ dX5_end_26 h hH
def pX5_end (M : zM) (x1 : Int32) (x2 : Int32) (post : Int32 → zM → Prop) : Prop :=
  pX2_isRelay M x1 (fun r5 => (¬ (r5 = 0) → pX5_isFlag x2 (fun r14 => (r14 = 0 → pX5_end_b24 post M) ∧ (¬ (r14 = 0) → (¬ (x1 = 0) → pX5_flag (M.1 1 3) x1 (fun r35 => pX5_withFlag (M.1 1 3) x1 x2 (fun r52 => post r35 (zsi M 1 3 r52)))) ∧ (x1 = 0 → pX5_end_b24 post M)))) ∧ (r5 = 0 → post (-1 : Int32) M))
set_option maxHeartbeats 4000000 in
set_option maxRecDepth 100000 in
theorem wX5_end {M : zM} {post : Int32 → zM → Prop} (hF : CallFix p m c cX5_end 4 s args wsX5_end RX5) (hSt : zSt G s) (hret : zRi p l e ({ frames := 1, cells := 0, slots := 0, locals := 22 } : Room) s m args below meth c Q cX5_end G true O post) (x1 : Int32) (x2 : Int32) (H : Heap) (locs : List Loc) (ls : Array Slot) (hH : zH G true s H locs M O) (hl : lv_has ls 4 [(0, .ref (G.1 0)), (1, .int x1), (2, .int x2)]) (h : pX5_end M x1 x2 post) : W p l e ({ frames := 1, cells := 0, slots := 0, locals := 22 } : Room) s m args below meth c H locs 0 0 Q (F0 m 0 ls []) := by
  obtain ⟨hx, hb, hml, hown, hts⟩ := id hF
  unfold pX5_end at h
  refine lv_aload_n hx hb dX5_end_0 rfl (lv_at hl 0 rfl) ?_
  refine zget (v := .ref (G.1 1)) hF hSt hH 0 (by decide) rfl (zE_0 _ _ _) (C := RX5) (T := TX5) (N := 5) rfl znX5_end_X5 0 (by decide) (List.mem_of_getElem? (i := 1) rfl) rfl dX5_end_1 ?_
  refine lv_iload_n hx hb dX5_end_4 rfl (lv_at hl 1 rfl) ?_
  refine zcalliP hH (va_runV (As := [.int x1]) (rest := []) hF (kX2_isRelay l G M O x1 _ h) (cwV 1 hts gX5_end_X2_isRelay rfl rfl rfl ⟨rfl, zdX2_isRelay⟩ ⟨Nat.le_of_ble_eq_true rfl, Nat.le_of_ble_eq_true rfl⟩) (zpreV hSt hH 1 (by decide) rfl (zE_1 _ _ _) (q := (RX2, TX2, 16)) rfl [.int x1]) rfl rfl hl.1 rfl (lv_room (Nat.le_of_ble_eq_true rfl)) dX5_end_5 ⟨Nat.zero_le _, Nat.zero_le _⟩) (fun r5 H locs h hH => ?_)
  refine lv_if_ne (tgt := 13) hx hb dX5_end_8 (by decide) (fun q8 => ?_) (fun q8 => ?_)
  · have h := h.1 q8
    refine lv_iload_n hx hb dX5_end_13 rfl (lv_at hl 2 rfl) ?_
    refine zcalliP hH (va_runS (As := [.int x2]) (rest := []) hF (kX5_isFlag l G M O x2 _ h) (va_cwS 1 hts gX5_end_X5_isFlag rfl rfl rfl zdX5_isFlag ⟨Nat.le_of_ble_eq_true rfl, Nat.le_of_ble_eq_true rfl⟩) (zpreS hSt hH [.int x2]) rfl rfl hl.1 rfl (lv_room (Nat.le_of_ble_eq_true rfl)) dX5_end_14 ⟨Nat.zero_le _, Nat.zero_le _⟩) (fun r14 H locs h hH => ?_)
    refine lv_if_eq (tgt := 24) hx hb dX5_end_17 (by decide) (fun q17 => ?_) (fun q17 => ?_)
    · have h := h.1 q17
      exact wX5_end_b24 hF hSt hret M H locs ls hH (lv_sub hl [] rfl) h
    · have h := h.2 q17
      refine lv_iload_n hx hb dX5_end_20 rfl (lv_at hl 1 rfl) ?_
      refine lv_if_ne (tgt := 27) hx hb dX5_end_21 (by decide) (fun q21 => ?_) (fun q21 => ?_)
      · have h := h.1 q21
        refine lv_aload_n hx hb dX5_end_27 rfl (lv_at hl 0 rfl) ?_
        refine zget (v := .ref (G.1 1)) hF hSt hH 0 (by decide) rfl (zE_0 _ _ _) (C := RX5) (T := TX5) (N := 5) rfl znX5_end_X5 0 (by decide) (List.mem_of_getElem? (i := 1) rfl) rfl dX5_end_28 ?_
        refine zget (v := .int (M.1 1 3)) hF hSt hH 1 (by decide) rfl (zE_1 _ _ _) (C := RX2) (T := TX2) (N := 16) rfl znX5_end_X2 3 (by decide) (List.mem_of_getElem? (i := 2) rfl) rfl dX5_end_31 ?_
        refine lv_iload_n hx hb dX5_end_34 rfl (lv_at hl 1 rfl) ?_
        refine zcalliP hH (va_runS (As := [.int (M.1 1 3), .int x1]) (rest := []) hF (kX5_flag l G M O (M.1 1 3) x1 _ h) (va_cwS 2 hts gX5_end_X5_flag rfl rfl rfl zdX5_flag ⟨Nat.le_of_ble_eq_true rfl, Nat.le_of_ble_eq_true rfl⟩) (zpreS hSt hH [.int (M.1 1 3), .int x1]) rfl rfl hl.1 rfl (lv_room (Nat.le_of_ble_eq_true rfl)) dX5_end_35 ⟨Nat.zero_le _, Nat.zero_le _⟩) (fun r35 H locs h hH => ?_)
        refine lv_istore_n (lv' := [(3, .int r35), (0, .ref (G.1 0)), (1, .int x1), (2, .int x2)]) hx hb dX5_end_38 rfl hl (by decide) rfl (fun ls hl => ?_)
        refine lv_aload_n hx hb dX5_end_39 rfl (lv_at hl 1 rfl) ?_
        refine zget (v := .ref (G.1 1)) hF hSt hH 0 (by decide) rfl (zE_0 _ _ _) (C := RX5) (T := TX5) (N := 5) rfl znX5_end_X5 0 (by decide) (List.mem_of_getElem? (i := 1) rfl) rfl dX5_end_40 ?_
        refine lv_aload_n hx hb dX5_end_43 rfl (lv_at hl 1 rfl) ?_
        refine zget (v := .ref (G.1 1)) hF hSt hH 0 (by decide) rfl (zE_0 _ _ _) (C := RX5) (T := TX5) (N := 5) rfl znX5_end_X5 0 (by decide) (List.mem_of_getElem? (i := 1) rfl) rfl dX5_end_44 ?_
        refine zget (v := .int (M.1 1 3)) hF hSt hH 1 (by decide) rfl (zE_1 _ _ _) (C := RX2) (T := TX2) (N := 16) rfl znX5_end_X2 3 (by decide) (List.mem_of_getElem? (i := 2) rfl) rfl dX5_end_47 ?_
        refine lv_iload_n hx hb dX5_end_50 rfl (lv_at hl 2 rfl) ?_
        refine lv_iload_n hx hb dX5_end_51 rfl (lv_at hl 3 rfl) ?_
        refine zcalliP hH (va_runS (As := [.int (M.1 1 3), .int x1, .int x2]) (rest := [.ref (G.1 1)]) hF (kX5_withFlag l G M O (M.1 1 3) x1 x2 _ h) (va_cwS 3 hts gX5_end_X5_withFlag rfl rfl rfl zdX5_withFlag ⟨Nat.le_of_ble_eq_true rfl, Nat.le_of_ble_eq_true rfl⟩) (zpreS hSt hH [.int (M.1 1 3), .int x1, .int x2]) rfl rfl hl.1 rfl (lv_room (Nat.le_of_ble_eq_true rfl)) dX5_end_52 ⟨Nat.zero_le _, Nat.zero_le _⟩) (fun r52 H locs h hH => ?_)
        refine zput hF hSt hH 1 (by decide) rfl (zE_1 _ _ _) (C := RX2) (T := TX2) (N := 16) rfl znX5_end_X2 tyX2 tyX2_ok nmX2 3 (by decide) (List.mem_of_getElem? (i := 2) rfl) rfl (by decide +kernel) (Nat.le_of_ble_eq_true rfl) (x := r52) rfl dX5_end_55 (fun H locs hH => ?_)
        refine lv_iload_n hx hb dX5_end_58 rfl (lv_at hl 0 rfl) ?_
        exact hret _ _ _ _ _ _ dX5_end_59 h hH
      · have h := h.2 q21
        exact wX5_end_b24 hF hSt hret M H locs ls hH (lv_sub hl [] rfl) h
  · have h := h.2 q8
    refine lv_iconst (v := (-1 : Int32)) hx hb dX5_end_11 (by decide) ?_
    exact hret _ _ _ _ _ _ dX5_end_12 h hH
set_option maxRecDepth 100000 in
theorem kX5_end (l : Launch) (G : zG) (M O : zM) (x1 : Int32) (x2 : Int32) (post : Int32 → zM → Prop) (h : pX5_end M x1 x2 post) : Met l yX5_end wsX5_end ({ frames := 1, cells := 0, slots := 0, locals := 22 } : Room) (zPc G true M O [.ref (G.1 0), .int x1, .int x2]) (va_Qi post (zB G true O) (zAA G)) 0 0 (zAA G) :=
  zmet_i (by decide) rfl (Nat.le_of_ble_eq_true rfl) (fun hF hSt hret H locs ls hH hl => wX5_end hF hSt hret x1 x2 H locs ls hH hl h)
end
theorem znX2_isLine_X2 : ∀ w ∈ wsX20, w ∈ wsX2_isLine := fun _ h => List.mem_cons_of_mem _ (List.mem_append_right _ h)
theorem zdX2_isLine : yX2_isLine.cls ≠ "java/lang/invoke/MethodHandle" ∧ yX2_isLine.cls ≠ "java/lang/invoke/VarHandle" ∧ (parseMethodDescriptor yX2_isLine.desc).map (fun d => d.parameters.length) = some 1 := by decide +kernel
-- MixingRelays$Net isLine(I)Z
section
variable {p : Program} {l : Launch} {e : Env} {s : State} {m : MethodId} {args : Array Value} {below : List Frame} {meth : Method} {c : Code} {Q : State → Prop} {G : zG} {O : zM}
def pX2_isLine_b17 (M : zM) (post : Int32 → Prop) (t0 : Int32) : Prop :=
  (t0 = 0 ∨ t0 = 1) ∧ post t0
set_option maxHeartbeats 4000000 in
set_option maxRecDepth 100000 in
theorem wX2_isLine_b17 {M : zM} {post : Int32 → Prop}  (hF : CallFix p m c cX2_isLine 2 s args wsX2_isLine RX2) (hSt : zSt G s) (hret : zRz p l e ({ frames := 0, cells := 0, slots := 0, locals := 0 } : Room) s m args below meth c Q cX2_isLine G true O (fun r M1 => M1 = M ∧ post r)) (t0 : Int32) (H : Heap) (locs : List Loc) (ls : Array Slot) (hH : zH G true s H locs M O) (hl : lv_has ls 2 []) (h : pX2_isLine_b17 M post t0) : W p l e ({ frames := 0, cells := 0, slots := 0, locals := 0 } : Room) s m args below meth c H locs 0 0 Q (F0 m 17 ls [.int t0]) := by
  obtain ⟨hx, hb, hml, hown, hts⟩ := id hF
  unfold pX2_isLine_b17 at h
  exact hret _ _ _ _ _ _ dX2_isLine_17 ⟨h.1, rfl, h.2⟩ hH
def pX2_isLine_b16 (M : zM) (post : Int32 → Prop) : Prop :=
  pX2_isLine_b17 M post (0 : Int32)
set_option maxHeartbeats 4000000 in
set_option maxRecDepth 100000 in
theorem wX2_isLine_b16 {M : zM} {post : Int32 → Prop}  (hF : CallFix p m c cX2_isLine 2 s args wsX2_isLine RX2) (hSt : zSt G s) (hret : zRz p l e ({ frames := 0, cells := 0, slots := 0, locals := 0 } : Room) s m args below meth c Q cX2_isLine G true O (fun r M1 => M1 = M ∧ post r))  (H : Heap) (locs : List Loc) (ls : Array Slot) (hH : zH G true s H locs M O) (hl : lv_has ls 2 []) (h : pX2_isLine_b16 M post) : W p l e ({ frames := 0, cells := 0, slots := 0, locals := 0 } : Room) s m args below meth c H locs 0 0 Q (F0 m 16 ls []) := by
  obtain ⟨hx, hb, hml, hown, hts⟩ := id hF
  unfold pX2_isLine_b16 at h
  refine lv_iconst (v := (0 : Int32)) hx hb dX2_isLine_16 (by decide) ?_
  exact wX2_isLine_b17 hF hSt hret (0 : Int32) H locs ls hH (lv_sub hl [] rfl) h
def pX2_isLine (M : zM) (x1 : Int32) (post : Int32 → Prop) : Prop :=
  (x1 < 0 → pX2_isLine_b16 M post) ∧ (¬ (x1 < 0) → ((M.1 1 1) ≤ x1 → pX2_isLine_b16 M post) ∧ (¬ ((M.1 1 1) ≤ x1) → pX2_isLine_b17 M post (1 : Int32)))
set_option maxHeartbeats 4000000 in
set_option maxRecDepth 100000 in
theorem wX2_isLine {M : zM} {post : Int32 → Prop} (hF : CallFix p m c cX2_isLine 2 s args wsX2_isLine RX2) (hSt : zSt G s) (hret : zRz p l e ({ frames := 0, cells := 0, slots := 0, locals := 0 } : Room) s m args below meth c Q cX2_isLine G true O (fun r M1 => M1 = M ∧ post r)) (x1 : Int32) (H : Heap) (locs : List Loc) (ls : Array Slot) (hH : zH G true s H locs M O) (hl : lv_has ls 2 [(0, .ref (G.1 1)), (1, .int x1)]) (h : pX2_isLine M x1 post) : W p l e ({ frames := 0, cells := 0, slots := 0, locals := 0 } : Room) s m args below meth c H locs 0 0 Q (F0 m 0 ls []) := by
  obtain ⟨hx, hb, hml, hown, hts⟩ := id hF
  unfold pX2_isLine at h
  refine lv_iload_n hx hb dX2_isLine_0 rfl (lv_at hl 1 rfl) ?_
  refine lv_if_lt (tgt := 16) hx hb dX2_isLine_1 (by decide) (fun q1 => ?_) (fun q1 => ?_)
  · have h := h.1 q1
    exact wX2_isLine_b16 hF hSt hret  H locs ls hH (lv_sub hl [] rfl) h
  · have h := h.2 q1
    refine lv_iload_n hx hb dX2_isLine_4 rfl (lv_at hl 1 rfl) ?_
    refine lv_aload_n hx hb dX2_isLine_5 rfl (lv_at hl 0 rfl) ?_
    refine zget (v := .int (M.1 1 1)) hF hSt hH 1 (by decide) rfl (zE_1 _ _ _) (C := RX2) (T := TX2) (N := 16) rfl znX2_isLine_X2 1 (by decide) (List.mem_of_getElem? (i := 1) rfl) rfl dX2_isLine_6 ?_
    refine lv_icmp_ge (tgt := 16) hx hb dX2_isLine_9 (by decide) (fun q9 => ?_) (fun q9 => ?_)
    · have h := h.1 q9
      exact wX2_isLine_b16 hF hSt hret  H locs ls hH (lv_sub hl [] rfl) h
    · have h := h.2 q9
      refine lv_iconst (v := (1 : Int32)) hx hb dX2_isLine_12 (by decide) ?_
      refine lv_goto (tgt := 17) hx hb dX2_isLine_13 (by decide) ?_
      exact wX2_isLine_b17 hF hSt hret (1 : Int32) H locs ls hH (lv_sub hl [] rfl) h
set_option maxRecDepth 100000 in
theorem kX2_isLine (l : Launch) (G : zG) (M O : zM) (x1 : Int32) (post : Int32 → Prop) (h : pX2_isLine M x1 post) : Met l yX2_isLine wsX2_isLine ({ frames := 0, cells := 0, slots := 0, locals := 0 } : Room) (zPc G true M O [.ref (G.1 1), .int x1]) (va_Qi (fun r M1 => M1 = M ∧ post r) (zB G true O) (zAA G)) 0 0 (zAA G) :=
  zmet_z (by decide) rfl (Nat.le_of_ble_eq_true rfl) (fun hF hSt hret H locs ls hH hl => wX2_isLine hF hSt hret x1 H locs ls hH hl h)
end
theorem znX2_insOf_X2 : ∀ w ∈ wsX20, w ∈ wsX2_insOf := fun _ h => List.mem_cons_of_mem _ (List.mem_append_right _ h)
theorem zdX2_insOf : yX2_insOf.cls ≠ "java/lang/invoke/MethodHandle" ∧ yX2_insOf.cls ≠ "java/lang/invoke/VarHandle" ∧ (parseMethodDescriptor yX2_insOf.desc).map (fun d => d.parameters.length) = some 1 := by decide +kernel
-- MixingRelays$Net insOf(I)I
section
variable {p : Program} {l : Launch} {e : Env} {s : State} {m : MethodId} {args : Array Value} {below : List Frame} {meth : Method} {c : Code} {Q : State → Prop} {G : zG} {O : zM}
def pX2_insOf_b27 (M : zM) (post : Int32 → Prop) (t0 : Int32) : Prop :=
  post t0
set_option maxHeartbeats 4000000 in
set_option maxRecDepth 100000 in
theorem wX2_insOf_b27 {M : zM} {post : Int32 → Prop}  (hF : CallFix p m c cX2_insOf 2 s args wsX2_insOf RX2) (hSt : zSt G s) (hret : zRi p l e ({ frames := 0, cells := 0, slots := 0, locals := 0 } : Room) s m args below meth c Q cX2_insOf G true O (fun r M1 => M1 = M ∧ post r)) (t0 : Int32) (H : Heap) (locs : List Loc) (ls : Array Slot) (hH : zH G true s H locs M O) (hl : lv_has ls 2 []) (h : pX2_insOf_b27 M post t0) : W p l e ({ frames := 0, cells := 0, slots := 0, locals := 0 } : Room) s m args below meth c H locs 0 0 Q (F0 m 27 ls [.int t0]) := by
  obtain ⟨hx, hb, hml, hown, hts⟩ := id hF
  unfold pX2_insOf_b27 at h
  exact hret _ _ _ _ _ _ dX2_insOf_27 ⟨rfl, h⟩ hH
def pX2_insOf (M : zM) (x1 : Int32) (post : Int32 → Prop) : Prop :=
  vp_in x1 30 ∧ (¬ ((M.1 6 x1.toNatClampNeg) = 0) → vp_in x1 30 ∧ vp_in (M.1 6 x1.toNatClampNeg) 12 ∧ pX2_insOf_b27 M post (M.1 12 ((M.1 6 x1.toNatClampNeg)).toNatClampNeg)) ∧ ((M.1 6 x1.toNatClampNeg) = 0 → pX2_insOf_b27 M post (M.1 1 2))
set_option maxHeartbeats 4000000 in
set_option maxRecDepth 100000 in
theorem wX2_insOf {M : zM} {post : Int32 → Prop} (hF : CallFix p m c cX2_insOf 2 s args wsX2_insOf RX2) (hSt : zSt G s) (hret : zRi p l e ({ frames := 0, cells := 0, slots := 0, locals := 0 } : Room) s m args below meth c Q cX2_insOf G true O (fun r M1 => M1 = M ∧ post r)) (x1 : Int32) (H : Heap) (locs : List Loc) (ls : Array Slot) (hH : zH G true s H locs M O) (hl : lv_has ls 2 [(0, .ref (G.1 1)), (1, .int x1)]) (h : pX2_insOf M x1 post) : W p l e ({ frames := 0, cells := 0, slots := 0, locals := 0 } : Room) s m args below meth c H locs 0 0 Q (F0 m 0 ls []) := by
  obtain ⟨hx, hb, hml, hown, hts⟩ := id hF
  unfold pX2_insOf at h
  refine lv_aload_n hx hb dX2_insOf_0 rfl (lv_at hl 0 rfl) ?_
  refine zget (v := .ref (G.1 6)) hF hSt hH 1 (by decide) rfl (zE_1 _ _ _) (C := RX2) (T := TX2) (N := 16) rfl znX2_insOf_X2 6 (by decide) (List.mem_of_getElem? (i := 1) rfl) rfl dX2_insOf_1 ?_
  refine lv_iload_n hx hb dX2_insOf_4 rfl (lv_at hl 1 rfl) ?_
  obtain ⟨q5, h⟩ := h
  refine zald hF hSt hH 6 (by decide) rfl (zE_6 _ _ _) q5 dX2_insOf_5 ?_
  refine lv_if_ne (tgt := 16) hx hb dX2_insOf_6 (by decide) (fun q6 => ?_) (fun q6 => ?_)
  · have h := h.1 q6
    refine lv_aload_n hx hb dX2_insOf_16 rfl (lv_at hl 0 rfl) ?_
    refine zget (v := .ref (G.1 12)) hF hSt hH 1 (by decide) rfl (zE_1 _ _ _) (C := RX2) (T := TX2) (N := 16) rfl znX2_insOf_X2 12 (by decide) (List.mem_of_getElem? (i := 3) rfl) rfl dX2_insOf_17 ?_
    refine lv_aload_n hx hb dX2_insOf_20 rfl (lv_at hl 0 rfl) ?_
    refine zget (v := .ref (G.1 6)) hF hSt hH 1 (by decide) rfl (zE_1 _ _ _) (C := RX2) (T := TX2) (N := 16) rfl znX2_insOf_X2 6 (by decide) (List.mem_of_getElem? (i := 1) rfl) rfl dX2_insOf_21 ?_
    refine lv_iload_n hx hb dX2_insOf_24 rfl (lv_at hl 1 rfl) ?_
    obtain ⟨q25, h⟩ := h
    refine zald hF hSt hH 6 (by decide) rfl (zE_6 _ _ _) q25 dX2_insOf_25 ?_
    obtain ⟨q26, h⟩ := h
    refine zald hF hSt hH 12 (by decide) rfl (zE_12 _ _ _) q26 dX2_insOf_26 ?_
    exact wX2_insOf_b27 hF hSt hret (M.1 12 ((M.1 6 x1.toNatClampNeg)).toNatClampNeg) H locs ls hH (lv_sub hl [] rfl) h
  · have h := h.2 q6
    refine lv_aload_n hx hb dX2_insOf_9 rfl (lv_at hl 0 rfl) ?_
    refine zget (v := .int (M.1 1 2)) hF hSt hH 1 (by decide) rfl (zE_1 _ _ _) (C := RX2) (T := TX2) (N := 16) rfl znX2_insOf_X2 2 (by decide) (List.mem_of_getElem? (i := 2) rfl) rfl dX2_insOf_10 ?_
    refine lv_goto (tgt := 27) hx hb dX2_insOf_13 (by decide) ?_
    exact wX2_insOf_b27 hF hSt hret (M.1 1 2) H locs ls hH (lv_sub hl [] rfl) h
set_option maxRecDepth 100000 in
theorem kX2_insOf (l : Launch) (G : zG) (M O : zM) (x1 : Int32) (post : Int32 → Prop) (h : pX2_insOf M x1 post) : Met l yX2_insOf wsX2_insOf ({ frames := 0, cells := 0, slots := 0, locals := 0 } : Room) (zPc G true M O [.ref (G.1 1), .int x1]) (va_Qi (fun r M1 => M1 = M ∧ post r) (zB G true O) (zAA G)) 0 0 (zAA G) :=
  zmet_i (by decide) rfl (Nat.le_of_ble_eq_true rfl) (fun hF hSt hret H locs ls hH hl => wX2_insOf hF hSt hret x1 H locs ls hH hl h)
end
theorem zdX5_isNumber : yX5_isNumber.cls ≠ "java/lang/invoke/MethodHandle" ∧ yX5_isNumber.cls ≠ "java/lang/invoke/VarHandle" ∧ (parseMethodDescriptor yX5_isNumber.desc).map (fun d => d.parameters.length) = some 1 := by decide +kernel
-- MixingRelays isNumber(I)Z
section
variable {p : Program} {l : Launch} {e : Env} {s : State} {m : MethodId} {args : Array Value} {below : List Frame} {meth : Method} {c : Code} {Q : State → Prop} {G : zG} {O : zM}
def pX5_isNumber_b16 (post : Int32 → Prop) (t0 : Int32) : Prop :=
  (t0 = 0 ∨ t0 = 1) ∧ post t0
set_option maxHeartbeats 4000000 in
set_option maxRecDepth 100000 in
theorem wX5_isNumber_b16 {M : zM} {post : Int32 → Prop}  (hF : CallFix p m c cX5_isNumber 1 s args wsX5_isNumber RX5) (hSt : zSt G s) (hret : zRz p l e ({ frames := 0, cells := 0, slots := 0, locals := 0 } : Room) s m args below meth c Q cX5_isNumber G true O (fun r M1 => M1 = M ∧ post r)) (t0 : Int32) (H : Heap) (locs : List Loc) (ls : Array Slot) (hH : zH G true s H locs M O) (hl : lv_has ls 1 []) (h : pX5_isNumber_b16 post t0) : W p l e ({ frames := 0, cells := 0, slots := 0, locals := 0 } : Room) s m args below meth c H locs 0 0 Q (F0 m 16 ls [.int t0]) := by
  obtain ⟨hx, hb, hml, hown, hts⟩ := id hF
  unfold pX5_isNumber_b16 at h
  exact hret _ _ _ _ _ _ dX5_isNumber_16 ⟨h.1, rfl, h.2⟩ hH
def pX5_isNumber_b15 (post : Int32 → Prop) : Prop :=
  pX5_isNumber_b16 post (0 : Int32)
set_option maxHeartbeats 4000000 in
set_option maxRecDepth 100000 in
theorem wX5_isNumber_b15 {M : zM} {post : Int32 → Prop}  (hF : CallFix p m c cX5_isNumber 1 s args wsX5_isNumber RX5) (hSt : zSt G s) (hret : zRz p l e ({ frames := 0, cells := 0, slots := 0, locals := 0 } : Room) s m args below meth c Q cX5_isNumber G true O (fun r M1 => M1 = M ∧ post r))  (H : Heap) (locs : List Loc) (ls : Array Slot) (hH : zH G true s H locs M O) (hl : lv_has ls 1 []) (h : pX5_isNumber_b15 post) : W p l e ({ frames := 0, cells := 0, slots := 0, locals := 0 } : Room) s m args below meth c H locs 0 0 Q (F0 m 15 ls []) := by
  obtain ⟨hx, hb, hml, hown, hts⟩ := id hF
  unfold pX5_isNumber_b15 at h
  refine lv_iconst (v := (0 : Int32)) hx hb dX5_isNumber_15 (by decide) ?_
  exact wX5_isNumber_b16 hF hSt hret (0 : Int32) H locs ls hH (lv_sub hl [] rfl) h
def pX5_isNumber (x0 : Int32) (post : Int32 → Prop) : Prop :=
  (x0 < 0 → pX5_isNumber_b15 post) ∧ (¬ (x0 < 0) → ((255 : Int32) < x0 → pX5_isNumber_b15 post) ∧ (¬ ((255 : Int32) < x0) → pX5_isNumber_b16 post (1 : Int32)))
set_option maxHeartbeats 4000000 in
set_option maxRecDepth 100000 in
theorem wX5_isNumber {M : zM} {post : Int32 → Prop} (hF : CallFix p m c cX5_isNumber 1 s args wsX5_isNumber RX5) (hSt : zSt G s) (hret : zRz p l e ({ frames := 0, cells := 0, slots := 0, locals := 0 } : Room) s m args below meth c Q cX5_isNumber G true O (fun r M1 => M1 = M ∧ post r)) (x0 : Int32) (H : Heap) (locs : List Loc) (ls : Array Slot) (hH : zH G true s H locs M O) (hl : lv_has ls 1 [(0, .int x0)]) (h : pX5_isNumber x0 post) : W p l e ({ frames := 0, cells := 0, slots := 0, locals := 0 } : Room) s m args below meth c H locs 0 0 Q (F0 m 0 ls []) := by
  obtain ⟨hx, hb, hml, hown, hts⟩ := id hF
  unfold pX5_isNumber at h
  refine lv_iload_n hx hb dX5_isNumber_0 rfl (lv_at hl 0 rfl) ?_
  refine lv_if_lt (tgt := 15) hx hb dX5_isNumber_1 (by decide) (fun q1 => ?_) (fun q1 => ?_)
  · have h := h.1 q1
    exact wX5_isNumber_b15 hF hSt hret  H locs ls hH (lv_sub hl [] rfl) h
  · have h := h.2 q1
    refine lv_iload_n hx hb dX5_isNumber_4 rfl (lv_at hl 0 rfl) ?_
    refine lv_sipush (v := (255 : Int32)) hx hb dX5_isNumber_5 (by decide) ?_
    refine lv_icmp_gt (tgt := 15) hx hb dX5_isNumber_8 (by decide) (fun q8 => ?_) (fun q8 => ?_)
    · have h := h.1 q8
      exact wX5_isNumber_b15 hF hSt hret  H locs ls hH (lv_sub hl [] rfl) h
    · have h := h.2 q8
      refine lv_iconst (v := (1 : Int32)) hx hb dX5_isNumber_11 (by decide) ?_
      refine lv_goto (tgt := 16) hx hb dX5_isNumber_12 (by decide) ?_
      exact wX5_isNumber_b16 hF hSt hret (1 : Int32) H locs ls hH (lv_sub hl [] rfl) h
set_option maxRecDepth 100000 in
theorem kX5_isNumber (l : Launch) (G : zG) (M O : zM) (x0 : Int32) (post : Int32 → Prop) (h : pX5_isNumber x0 post) : Met l yX5_isNumber wsX5_isNumber ({ frames := 0, cells := 0, slots := 0, locals := 0 } : Room) (zPc G true M O [.int x0]) (va_Qi (fun r M1 => M1 = M ∧ post r) (zB G true O) (zAA G)) 0 0 (zAA G) :=
  zmet_z (by decide) rfl (Nat.le_of_ble_eq_true rfl) (fun hF hSt hret H locs ls hH hl => wX5_isNumber hF hSt hret x0 H locs ls hH hl h)
end
theorem znX5_factor_X5 : ∀ w ∈ wsX50, w ∈ wsX5_factor := fun _ h => List.mem_cons_of_mem _ (List.mem_append_left _ (List.mem_append_right _ h))
theorem znX5_factor_X2 : ∀ w ∈ wsX20, w ∈ wsX5_factor := fun _ h => List.mem_cons_of_mem _ (List.mem_append_right _ h)
theorem zdX5_factor : yX5_factor.cls ≠ "java/lang/invoke/MethodHandle" ∧ yX5_factor.cls ≠ "java/lang/invoke/VarHandle" ∧ (parseMethodDescriptor yX5_factor.desc).map (fun d => d.parameters.length) = some 3 := by decide +kernel
-- MixingRelays factor(III)I
section
variable {p : Program} {l : Launch} {e : Env} {s : State} {m : MethodId} {args : Array Value} {below : List Frame} {meth : Method} {c : Code} {Q : State → Prop} {G : zG} {O : zM}
def pX5_factor_b27 (post : Int32 → zM → Prop) (M : zM) : Prop :=
  post (-1 : Int32) M
set_option maxHeartbeats 4000000 in
set_option maxRecDepth 100000 in
theorem wX5_factor_b27 {post : Int32 → zM → Prop}  (hF : CallFix p m c cX5_factor 6 s args wsX5_factor RX5) (hSt : zSt G s) (hret : zRi p l e ({ frames := 1, cells := 0, slots := 0, locals := 21 } : Room) s m args below meth c Q cX5_factor G true O post) (M : zM) (H : Heap) (locs : List Loc) (ls : Array Slot) (hH : zH G true s H locs M O) (hl : lv_has ls 6 []) (h : pX5_factor_b27 post M) : W p l e ({ frames := 1, cells := 0, slots := 0, locals := 21 } : Room) s m args below meth c H locs 0 0 Q (F0 m 27 ls []) := by
  obtain ⟨hx, hb, hml, hown, hts⟩ := id hF
  unfold pX5_factor_b27 at h
  refine lv_iconst (v := (-1 : Int32)) hx hb dX5_factor_27 (by decide) ?_
  exact hret _ _ _ _ _ _ dX5_factor_28 h hH
def pX5_factor (M : zM) (x1 : Int32) (x2 : Int32) (x3 : Int32) (post : Int32 → zM → Prop) : Prop :=
  pX2_isLine M x1 (fun r5 => (r5 = 0 → pX5_factor_b27 post M) ∧ (¬ (r5 = 0) → (x2 < 0 → pX5_factor_b27 post M) ∧ (¬ (x2 < 0) → pX2_insOf M x1 (fun r21 => (x2 < r21 → pX5_isNumber x3 (fun r30 => (¬ (r30 = 0) → pX5_slot x1 x2 (fun r41 => vp_in r41 900 ∧ vp_in r41 900 ∧ post (M.1 10 r41.toNatClampNeg) (zsi M 10 r41.toNatClampNeg x3))) ∧ (r30 = 0 → post (-2 : Int32) M))) ∧ (¬ (x2 < r21) → pX5_factor_b27 post M)))))
set_option maxHeartbeats 4000000 in
set_option maxRecDepth 100000 in
theorem wX5_factor {M : zM} {post : Int32 → zM → Prop} (hF : CallFix p m c cX5_factor 6 s args wsX5_factor RX5) (hSt : zSt G s) (hret : zRi p l e ({ frames := 1, cells := 0, slots := 0, locals := 21 } : Room) s m args below meth c Q cX5_factor G true O post) (x1 : Int32) (x2 : Int32) (x3 : Int32) (H : Heap) (locs : List Loc) (ls : Array Slot) (hH : zH G true s H locs M O) (hl : lv_has ls 6 [(0, .ref (G.1 0)), (1, .int x1), (2, .int x2), (3, .int x3)]) (h : pX5_factor M x1 x2 x3 post) : W p l e ({ frames := 1, cells := 0, slots := 0, locals := 21 } : Room) s m args below meth c H locs 0 0 Q (F0 m 0 ls []) := by
  obtain ⟨hx, hb, hml, hown, hts⟩ := id hF
  unfold pX5_factor at h
  refine lv_aload_n hx hb dX5_factor_0 rfl (lv_at hl 0 rfl) ?_
  refine zget (v := .ref (G.1 1)) hF hSt hH 0 (by decide) rfl (zE_0 _ _ _) (C := RX5) (T := TX5) (N := 5) rfl znX5_factor_X5 0 (by decide) (List.mem_of_getElem? (i := 1) rfl) rfl dX5_factor_1 ?_
  refine lv_iload_n hx hb dX5_factor_4 rfl (lv_at hl 1 rfl) ?_
  refine zcalliP hH (va_runV (As := [.int x1]) (rest := []) hF (kX2_isLine l G M O x1 _ h) (cwV 1 hts gX5_factor_X2_isLine rfl rfl rfl ⟨rfl, zdX2_isLine⟩ ⟨Nat.le_of_ble_eq_true rfl, Nat.le_of_ble_eq_true rfl⟩) (zpreV hSt hH 1 (by decide) rfl (zE_1 _ _ _) (q := (RX2, TX2, 16)) rfl [.int x1]) rfl rfl hl.1 rfl (lv_room (Nat.le_of_ble_eq_true rfl)) dX5_factor_5 ⟨Nat.zero_le _, Nat.zero_le _⟩) (fun r5 H locs h hH => ?_)
  refine lv_if_eq (tgt := 27) hx hb dX5_factor_8 (by decide) (fun q8 => ?_) (fun q8 => ?_)
  · have h := h.1 q8
    exact wX5_factor_b27 hF hSt hret M H locs ls hH (lv_sub hl [] rfl) h
  · have h := h.2 q8
    refine lv_iload_n hx hb dX5_factor_11 rfl (lv_at hl 2 rfl) ?_
    refine lv_if_lt (tgt := 27) hx hb dX5_factor_12 (by decide) (fun q12 => ?_) (fun q12 => ?_)
    · have h := h.1 q12
      exact wX5_factor_b27 hF hSt hret M H locs ls hH (lv_sub hl [] rfl) h
    · have h := h.2 q12
      refine lv_iload_n hx hb dX5_factor_15 rfl (lv_at hl 2 rfl) ?_
      refine lv_aload_n hx hb dX5_factor_16 rfl (lv_at hl 0 rfl) ?_
      refine zget (v := .ref (G.1 1)) hF hSt hH 0 (by decide) rfl (zE_0 _ _ _) (C := RX5) (T := TX5) (N := 5) rfl znX5_factor_X5 0 (by decide) (List.mem_of_getElem? (i := 1) rfl) rfl dX5_factor_17 ?_
      refine lv_iload_n hx hb dX5_factor_20 rfl (lv_at hl 1 rfl) ?_
      refine zcalliP hH (va_runV (As := [.int x1]) (rest := [.int x2]) hF (kX2_insOf l G M O x1 _ h) (cwV 1 hts gX5_factor_X2_insOf rfl rfl rfl ⟨rfl, zdX2_insOf⟩ ⟨Nat.le_of_ble_eq_true rfl, Nat.le_of_ble_eq_true rfl⟩) (zpreV hSt hH 1 (by decide) rfl (zE_1 _ _ _) (q := (RX2, TX2, 16)) rfl [.int x1]) rfl rfl hl.1 rfl (lv_room (Nat.le_of_ble_eq_true rfl)) dX5_factor_21 ⟨Nat.zero_le _, Nat.zero_le _⟩) (fun r21 H locs h hH => ?_)
      refine lv_icmp_lt (tgt := 29) hx hb dX5_factor_24 (by decide) (fun q24 => ?_) (fun q24 => ?_)
      · have h := h.1 q24
        refine lv_iload_n hx hb dX5_factor_29 rfl (lv_at hl 3 rfl) ?_
        refine zcalliP hH (va_runS (As := [.int x3]) (rest := []) hF (kX5_isNumber l G M O x3 _ h) (va_cwS 1 hts gX5_factor_X5_isNumber rfl rfl rfl zdX5_isNumber ⟨Nat.le_of_ble_eq_true rfl, Nat.le_of_ble_eq_true rfl⟩) (zpreS hSt hH [.int x3]) rfl rfl hl.1 rfl (lv_room (Nat.le_of_ble_eq_true rfl)) dX5_factor_30 ⟨Nat.zero_le _, Nat.zero_le _⟩) (fun r30 H locs h hH => ?_)
        refine lv_if_ne (tgt := 39) hx hb dX5_factor_33 (by decide) (fun q33 => ?_) (fun q33 => ?_)
        · have h := h.1 q33
          refine lv_iload_n hx hb dX5_factor_39 rfl (lv_at hl 1 rfl) ?_
          refine lv_iload_n hx hb dX5_factor_40 rfl (lv_at hl 2 rfl) ?_
          refine zcalliP hH (va_runS (As := [.int x1, .int x2]) (rest := []) hF (kX5_slot l G M O x1 x2 _ h) (va_cwS 2 hts gX5_factor_X5_slot rfl rfl rfl zdX5_slot ⟨Nat.le_of_ble_eq_true rfl, Nat.le_of_ble_eq_true rfl⟩) (zpreS hSt hH [.int x1, .int x2]) rfl rfl hl.1 rfl (lv_room (Nat.le_of_ble_eq_true rfl)) dX5_factor_41 ⟨Nat.zero_le _, Nat.zero_le _⟩) (fun r41 H locs h hH => ?_)
          refine lv_istore (lv' := [(4, .int r41), (0, .ref (G.1 0)), (1, .int x1), (2, .int x2), (3, .int x3)]) hx hb dX5_factor_44 hl (by decide) rfl (fun ls hl => ?_)
          refine lv_aload_n hx hb dX5_factor_46 rfl (lv_at hl 1 rfl) ?_
          refine zget (v := .ref (G.1 1)) hF hSt hH 0 (by decide) rfl (zE_0 _ _ _) (C := RX5) (T := TX5) (N := 5) rfl znX5_factor_X5 0 (by decide) (List.mem_of_getElem? (i := 1) rfl) rfl dX5_factor_47 ?_
          refine zget (v := .ref (G.1 10)) hF hSt hH 1 (by decide) rfl (zE_1 _ _ _) (C := RX2) (T := TX2) (N := 16) rfl znX5_factor_X2 10 (by decide) (List.mem_of_getElem? (i := 2) rfl) rfl dX5_factor_50 ?_
          refine lv_iload hx hb dX5_factor_53 (lv_at hl 0 rfl) ?_
          obtain ⟨q55, h⟩ := h
          refine zald hF hSt hH 10 (by decide) rfl (zE_10 _ _ _) q55 dX5_factor_55 ?_
          refine lv_istore (lv' := [(5, .int (M.1 10 r41.toNatClampNeg)), (4, .int r41), (0, .ref (G.1 0)), (1, .int x1), (2, .int x2), (3, .int x3)]) hx hb dX5_factor_56 hl (by decide) rfl (fun ls hl => ?_)
          refine lv_aload_n hx hb dX5_factor_58 rfl (lv_at hl 2 rfl) ?_
          refine zget (v := .ref (G.1 1)) hF hSt hH 0 (by decide) rfl (zE_0 _ _ _) (C := RX5) (T := TX5) (N := 5) rfl znX5_factor_X5 0 (by decide) (List.mem_of_getElem? (i := 1) rfl) rfl dX5_factor_59 ?_
          refine zget (v := .ref (G.1 10)) hF hSt hH 1 (by decide) rfl (zE_1 _ _ _) (C := RX2) (T := TX2) (N := 16) rfl znX5_factor_X2 10 (by decide) (List.mem_of_getElem? (i := 2) rfl) rfl dX5_factor_62 ?_
          refine lv_iload hx hb dX5_factor_65 (lv_at hl 1 rfl) ?_
          refine lv_iload_n hx hb dX5_factor_67 rfl (lv_at hl 5 rfl) ?_
          obtain ⟨q68, h⟩ := h
          refine zast hF hSt hH 10 (by decide) rfl (zE_10 _) (x := x3) q68 dX5_factor_68 (fun H locs hH => ?_)
          refine lv_iload hx hb dX5_factor_69 (lv_at hl 0 rfl) ?_
          exact hret _ _ _ _ _ _ dX5_factor_71 h hH
        · have h := h.2 q33
          refine lv_bipush (v := (-2 : Int32)) hx hb dX5_factor_36 (by decide) ?_
          exact hret _ _ _ _ _ _ dX5_factor_38 h hH
      · have h := h.2 q24
        exact wX5_factor_b27 hF hSt hret M H locs ls hH (lv_sub hl [] rfl) h
set_option maxRecDepth 100000 in
theorem kX5_factor (l : Launch) (G : zG) (M O : zM) (x1 : Int32) (x2 : Int32) (x3 : Int32) (post : Int32 → zM → Prop) (h : pX5_factor M x1 x2 x3 post) : Met l yX5_factor wsX5_factor ({ frames := 1, cells := 0, slots := 0, locals := 21 } : Room) (zPc G true M O [.ref (G.1 0), .int x1, .int x2, .int x3]) (va_Qi post (zB G true O) (zAA G)) 0 0 (zAA G) :=
  zmet_i (by decide) rfl (Nat.le_of_ble_eq_true rfl) (fun hF hSt hret H locs ls hH hl => wX5_factor hF hSt hret x1 x2 x3 H locs ls hH hl h)
end
theorem znX5_keep_X5 : ∀ w ∈ wsX50, w ∈ wsX5_keep := fun _ h => List.mem_cons_of_mem _ (List.mem_append_left _ (List.mem_append_right _ h))
theorem znX5_keep_X2 : ∀ w ∈ wsX20, w ∈ wsX5_keep := fun _ h => List.mem_cons_of_mem _ (List.mem_append_right _ h)
theorem zdX5_keep : yX5_keep.cls ≠ "java/lang/invoke/MethodHandle" ∧ yX5_keep.cls ≠ "java/lang/invoke/VarHandle" ∧ (parseMethodDescriptor yX5_keep.desc).map (fun d => d.parameters.length) = some 2 := by decide +kernel
-- MixingRelays keep(II)I
section
variable {p : Program} {l : Launch} {e : Env} {s : State} {m : MethodId} {args : Array Value} {below : List Frame} {meth : Method} {c : Code} {Q : State → Prop} {G : zG} {O : zM}
def pX5_keep (M : zM) (x1 : Int32) (x2 : Int32) (post : Int32 → zM → Prop) : Prop :=
  pX2_isLine M x1 (fun r5 => (¬ (r5 = 0) → pX5_isFlag x2 (fun r14 => (¬ (r14 = 0) → pX5_flag (M.1 1 4) x1 (fun r31 => pX5_withFlag (M.1 1 4) x1 x2 (fun r48 => post r31 (zsi M 1 4 r48)))) ∧ (r14 = 0 → post (-2 : Int32) M))) ∧ (r5 = 0 → post (-1 : Int32) M))
set_option maxHeartbeats 4000000 in
set_option maxRecDepth 100000 in
theorem wX5_keep {M : zM} {post : Int32 → zM → Prop} (hF : CallFix p m c cX5_keep 4 s args wsX5_keep RX5) (hSt : zSt G s) (hret : zRi p l e ({ frames := 1, cells := 0, slots := 0, locals := 22 } : Room) s m args below meth c Q cX5_keep G true O post) (x1 : Int32) (x2 : Int32) (H : Heap) (locs : List Loc) (ls : Array Slot) (hH : zH G true s H locs M O) (hl : lv_has ls 4 [(0, .ref (G.1 0)), (1, .int x1), (2, .int x2)]) (h : pX5_keep M x1 x2 post) : W p l e ({ frames := 1, cells := 0, slots := 0, locals := 22 } : Room) s m args below meth c H locs 0 0 Q (F0 m 0 ls []) := by
  obtain ⟨hx, hb, hml, hown, hts⟩ := id hF
  unfold pX5_keep at h
  refine lv_aload_n hx hb dX5_keep_0 rfl (lv_at hl 0 rfl) ?_
  refine zget (v := .ref (G.1 1)) hF hSt hH 0 (by decide) rfl (zE_0 _ _ _) (C := RX5) (T := TX5) (N := 5) rfl znX5_keep_X5 0 (by decide) (List.mem_of_getElem? (i := 1) rfl) rfl dX5_keep_1 ?_
  refine lv_iload_n hx hb dX5_keep_4 rfl (lv_at hl 1 rfl) ?_
  refine zcalliP hH (va_runV (As := [.int x1]) (rest := []) hF (kX2_isLine l G M O x1 _ h) (cwV 1 hts gX5_keep_X2_isLine rfl rfl rfl ⟨rfl, zdX2_isLine⟩ ⟨Nat.le_of_ble_eq_true rfl, Nat.le_of_ble_eq_true rfl⟩) (zpreV hSt hH 1 (by decide) rfl (zE_1 _ _ _) (q := (RX2, TX2, 16)) rfl [.int x1]) rfl rfl hl.1 rfl (lv_room (Nat.le_of_ble_eq_true rfl)) dX5_keep_5 ⟨Nat.zero_le _, Nat.zero_le _⟩) (fun r5 H locs h hH => ?_)
  refine lv_if_ne (tgt := 13) hx hb dX5_keep_8 (by decide) (fun q8 => ?_) (fun q8 => ?_)
  · have h := h.1 q8
    refine lv_iload_n hx hb dX5_keep_13 rfl (lv_at hl 2 rfl) ?_
    refine zcalliP hH (va_runS (As := [.int x2]) (rest := []) hF (kX5_isFlag l G M O x2 _ h) (va_cwS 1 hts gX5_keep_X5_isFlag rfl rfl rfl zdX5_isFlag ⟨Nat.le_of_ble_eq_true rfl, Nat.le_of_ble_eq_true rfl⟩) (zpreS hSt hH [.int x2]) rfl rfl hl.1 rfl (lv_room (Nat.le_of_ble_eq_true rfl)) dX5_keep_14 ⟨Nat.zero_le _, Nat.zero_le _⟩) (fun r14 H locs h hH => ?_)
    refine lv_if_ne (tgt := 23) hx hb dX5_keep_17 (by decide) (fun q17 => ?_) (fun q17 => ?_)
    · have h := h.1 q17
      refine lv_aload_n hx hb dX5_keep_23 rfl (lv_at hl 0 rfl) ?_
      refine zget (v := .ref (G.1 1)) hF hSt hH 0 (by decide) rfl (zE_0 _ _ _) (C := RX5) (T := TX5) (N := 5) rfl znX5_keep_X5 0 (by decide) (List.mem_of_getElem? (i := 1) rfl) rfl dX5_keep_24 ?_
      refine zget (v := .int (M.1 1 4)) hF hSt hH 1 (by decide) rfl (zE_1 _ _ _) (C := RX2) (T := TX2) (N := 16) rfl znX5_keep_X2 4 (by decide) (List.mem_of_getElem? (i := 2) rfl) rfl dX5_keep_27 ?_
      refine lv_iload_n hx hb dX5_keep_30 rfl (lv_at hl 1 rfl) ?_
      refine zcalliP hH (va_runS (As := [.int (M.1 1 4), .int x1]) (rest := []) hF (kX5_flag l G M O (M.1 1 4) x1 _ h) (va_cwS 2 hts gX5_keep_X5_flag rfl rfl rfl zdX5_flag ⟨Nat.le_of_ble_eq_true rfl, Nat.le_of_ble_eq_true rfl⟩) (zpreS hSt hH [.int (M.1 1 4), .int x1]) rfl rfl hl.1 rfl (lv_room (Nat.le_of_ble_eq_true rfl)) dX5_keep_31 ⟨Nat.zero_le _, Nat.zero_le _⟩) (fun r31 H locs h hH => ?_)
      refine lv_istore_n (lv' := [(3, .int r31), (0, .ref (G.1 0)), (1, .int x1), (2, .int x2)]) hx hb dX5_keep_34 rfl hl (by decide) rfl (fun ls hl => ?_)
      refine lv_aload_n hx hb dX5_keep_35 rfl (lv_at hl 1 rfl) ?_
      refine zget (v := .ref (G.1 1)) hF hSt hH 0 (by decide) rfl (zE_0 _ _ _) (C := RX5) (T := TX5) (N := 5) rfl znX5_keep_X5 0 (by decide) (List.mem_of_getElem? (i := 1) rfl) rfl dX5_keep_36 ?_
      refine lv_aload_n hx hb dX5_keep_39 rfl (lv_at hl 1 rfl) ?_
      refine zget (v := .ref (G.1 1)) hF hSt hH 0 (by decide) rfl (zE_0 _ _ _) (C := RX5) (T := TX5) (N := 5) rfl znX5_keep_X5 0 (by decide) (List.mem_of_getElem? (i := 1) rfl) rfl dX5_keep_40 ?_
      refine zget (v := .int (M.1 1 4)) hF hSt hH 1 (by decide) rfl (zE_1 _ _ _) (C := RX2) (T := TX2) (N := 16) rfl znX5_keep_X2 4 (by decide) (List.mem_of_getElem? (i := 2) rfl) rfl dX5_keep_43 ?_
      refine lv_iload_n hx hb dX5_keep_46 rfl (lv_at hl 2 rfl) ?_
      refine lv_iload_n hx hb dX5_keep_47 rfl (lv_at hl 3 rfl) ?_
      refine zcalliP hH (va_runS (As := [.int (M.1 1 4), .int x1, .int x2]) (rest := [.ref (G.1 1)]) hF (kX5_withFlag l G M O (M.1 1 4) x1 x2 _ h) (va_cwS 3 hts gX5_keep_X5_withFlag rfl rfl rfl zdX5_withFlag ⟨Nat.le_of_ble_eq_true rfl, Nat.le_of_ble_eq_true rfl⟩) (zpreS hSt hH [.int (M.1 1 4), .int x1, .int x2]) rfl rfl hl.1 rfl (lv_room (Nat.le_of_ble_eq_true rfl)) dX5_keep_48 ⟨Nat.zero_le _, Nat.zero_le _⟩) (fun r48 H locs h hH => ?_)
      refine zput hF hSt hH 1 (by decide) rfl (zE_1 _ _ _) (C := RX2) (T := TX2) (N := 16) rfl znX5_keep_X2 tyX2 tyX2_ok nmX2 4 (by decide) (List.mem_of_getElem? (i := 2) rfl) rfl (by decide +kernel) (Nat.le_of_ble_eq_true rfl) (x := r48) rfl dX5_keep_51 (fun H locs hH => ?_)
      refine lv_iload_n hx hb dX5_keep_54 rfl (lv_at hl 0 rfl) ?_
      exact hret _ _ _ _ _ _ dX5_keep_55 h hH
    · have h := h.2 q17
      refine lv_bipush (v := (-2 : Int32)) hx hb dX5_keep_20 (by decide) ?_
      exact hret _ _ _ _ _ _ dX5_keep_22 h hH
  · have h := h.2 q8
    refine lv_iconst (v := (-1 : Int32)) hx hb dX5_keep_11 (by decide) ?_
    exact hret _ _ _ _ _ _ dX5_keep_12 h hH
set_option maxRecDepth 100000 in
theorem kX5_keep (l : Launch) (G : zG) (M O : zM) (x1 : Int32) (x2 : Int32) (post : Int32 → zM → Prop) (h : pX5_keep M x1 x2 post) : Met l yX5_keep wsX5_keep ({ frames := 1, cells := 0, slots := 0, locals := 22 } : Room) (zPc G true M O [.ref (G.1 0), .int x1, .int x2]) (va_Qi post (zB G true O) (zAA G)) 0 0 (zAA G) :=
  zmet_i (by decide) rfl (Nat.le_of_ble_eq_true rfl) (fun hF hSt hret H locs ls hH hl => wX5_keep hF hSt hret x1 x2 H locs ls hH hl h)
end
theorem znX5_broken_X5 : ∀ w ∈ wsX50, w ∈ wsX5_broken := fun _ h => List.mem_cons_of_mem _ (List.mem_append_left _ (List.mem_append_right _ h))
theorem znX5_broken_X2 : ∀ w ∈ wsX20, w ∈ wsX5_broken := fun _ h => List.mem_cons_of_mem _ (List.mem_append_right _ h)
theorem zdX5_broken : yX5_broken.cls ≠ "java/lang/invoke/MethodHandle" ∧ yX5_broken.cls ≠ "java/lang/invoke/VarHandle" ∧ (parseMethodDescriptor yX5_broken.desc).map (fun d => d.parameters.length) = some 2 := by decide +kernel
-- MixingRelays broken(II)I
section
variable {p : Program} {l : Launch} {e : Env} {s : State} {m : MethodId} {args : Array Value} {below : List Frame} {meth : Method} {c : Code} {Q : State → Prop} {G : zG} {O : zM}
def pX5_broken (M : zM) (x1 : Int32) (x2 : Int32) (post : Int32 → zM → Prop) : Prop :=
  pX2_isLine M x1 (fun r5 => (¬ (r5 = 0) → pX5_isFlag x2 (fun r14 => (¬ (r14 = 0) → pX5_flag (M.1 1 5) x1 (fun r31 => pX5_withFlag (M.1 1 5) x1 x2 (fun r48 => post r31 (zsi M 1 5 r48)))) ∧ (r14 = 0 → post (-2 : Int32) M))) ∧ (r5 = 0 → post (-1 : Int32) M))
set_option maxHeartbeats 4000000 in
set_option maxRecDepth 100000 in
theorem wX5_broken {M : zM} {post : Int32 → zM → Prop} (hF : CallFix p m c cX5_broken 4 s args wsX5_broken RX5) (hSt : zSt G s) (hret : zRi p l e ({ frames := 1, cells := 0, slots := 0, locals := 22 } : Room) s m args below meth c Q cX5_broken G true O post) (x1 : Int32) (x2 : Int32) (H : Heap) (locs : List Loc) (ls : Array Slot) (hH : zH G true s H locs M O) (hl : lv_has ls 4 [(0, .ref (G.1 0)), (1, .int x1), (2, .int x2)]) (h : pX5_broken M x1 x2 post) : W p l e ({ frames := 1, cells := 0, slots := 0, locals := 22 } : Room) s m args below meth c H locs 0 0 Q (F0 m 0 ls []) := by
  obtain ⟨hx, hb, hml, hown, hts⟩ := id hF
  unfold pX5_broken at h
  refine lv_aload_n hx hb dX5_broken_0 rfl (lv_at hl 0 rfl) ?_
  refine zget (v := .ref (G.1 1)) hF hSt hH 0 (by decide) rfl (zE_0 _ _ _) (C := RX5) (T := TX5) (N := 5) rfl znX5_broken_X5 0 (by decide) (List.mem_of_getElem? (i := 1) rfl) rfl dX5_broken_1 ?_
  refine lv_iload_n hx hb dX5_broken_4 rfl (lv_at hl 1 rfl) ?_
  refine zcalliP hH (va_runV (As := [.int x1]) (rest := []) hF (kX2_isLine l G M O x1 _ h) (cwV 1 hts gX5_broken_X2_isLine rfl rfl rfl ⟨rfl, zdX2_isLine⟩ ⟨Nat.le_of_ble_eq_true rfl, Nat.le_of_ble_eq_true rfl⟩) (zpreV hSt hH 1 (by decide) rfl (zE_1 _ _ _) (q := (RX2, TX2, 16)) rfl [.int x1]) rfl rfl hl.1 rfl (lv_room (Nat.le_of_ble_eq_true rfl)) dX5_broken_5 ⟨Nat.zero_le _, Nat.zero_le _⟩) (fun r5 H locs h hH => ?_)
  refine lv_if_ne (tgt := 13) hx hb dX5_broken_8 (by decide) (fun q8 => ?_) (fun q8 => ?_)
  · have h := h.1 q8
    refine lv_iload_n hx hb dX5_broken_13 rfl (lv_at hl 2 rfl) ?_
    refine zcalliP hH (va_runS (As := [.int x2]) (rest := []) hF (kX5_isFlag l G M O x2 _ h) (va_cwS 1 hts gX5_broken_X5_isFlag rfl rfl rfl zdX5_isFlag ⟨Nat.le_of_ble_eq_true rfl, Nat.le_of_ble_eq_true rfl⟩) (zpreS hSt hH [.int x2]) rfl rfl hl.1 rfl (lv_room (Nat.le_of_ble_eq_true rfl)) dX5_broken_14 ⟨Nat.zero_le _, Nat.zero_le _⟩) (fun r14 H locs h hH => ?_)
    refine lv_if_ne (tgt := 23) hx hb dX5_broken_17 (by decide) (fun q17 => ?_) (fun q17 => ?_)
    · have h := h.1 q17
      refine lv_aload_n hx hb dX5_broken_23 rfl (lv_at hl 0 rfl) ?_
      refine zget (v := .ref (G.1 1)) hF hSt hH 0 (by decide) rfl (zE_0 _ _ _) (C := RX5) (T := TX5) (N := 5) rfl znX5_broken_X5 0 (by decide) (List.mem_of_getElem? (i := 1) rfl) rfl dX5_broken_24 ?_
      refine zget (v := .int (M.1 1 5)) hF hSt hH 1 (by decide) rfl (zE_1 _ _ _) (C := RX2) (T := TX2) (N := 16) rfl znX5_broken_X2 5 (by decide) (List.mem_of_getElem? (i := 2) rfl) rfl dX5_broken_27 ?_
      refine lv_iload_n hx hb dX5_broken_30 rfl (lv_at hl 1 rfl) ?_
      refine zcalliP hH (va_runS (As := [.int (M.1 1 5), .int x1]) (rest := []) hF (kX5_flag l G M O (M.1 1 5) x1 _ h) (va_cwS 2 hts gX5_broken_X5_flag rfl rfl rfl zdX5_flag ⟨Nat.le_of_ble_eq_true rfl, Nat.le_of_ble_eq_true rfl⟩) (zpreS hSt hH [.int (M.1 1 5), .int x1]) rfl rfl hl.1 rfl (lv_room (Nat.le_of_ble_eq_true rfl)) dX5_broken_31 ⟨Nat.zero_le _, Nat.zero_le _⟩) (fun r31 H locs h hH => ?_)
      refine lv_istore_n (lv' := [(3, .int r31), (0, .ref (G.1 0)), (1, .int x1), (2, .int x2)]) hx hb dX5_broken_34 rfl hl (by decide) rfl (fun ls hl => ?_)
      refine lv_aload_n hx hb dX5_broken_35 rfl (lv_at hl 1 rfl) ?_
      refine zget (v := .ref (G.1 1)) hF hSt hH 0 (by decide) rfl (zE_0 _ _ _) (C := RX5) (T := TX5) (N := 5) rfl znX5_broken_X5 0 (by decide) (List.mem_of_getElem? (i := 1) rfl) rfl dX5_broken_36 ?_
      refine lv_aload_n hx hb dX5_broken_39 rfl (lv_at hl 1 rfl) ?_
      refine zget (v := .ref (G.1 1)) hF hSt hH 0 (by decide) rfl (zE_0 _ _ _) (C := RX5) (T := TX5) (N := 5) rfl znX5_broken_X5 0 (by decide) (List.mem_of_getElem? (i := 1) rfl) rfl dX5_broken_40 ?_
      refine zget (v := .int (M.1 1 5)) hF hSt hH 1 (by decide) rfl (zE_1 _ _ _) (C := RX2) (T := TX2) (N := 16) rfl znX5_broken_X2 5 (by decide) (List.mem_of_getElem? (i := 2) rfl) rfl dX5_broken_43 ?_
      refine lv_iload_n hx hb dX5_broken_46 rfl (lv_at hl 2 rfl) ?_
      refine lv_iload_n hx hb dX5_broken_47 rfl (lv_at hl 3 rfl) ?_
      refine zcalliP hH (va_runS (As := [.int (M.1 1 5), .int x1, .int x2]) (rest := [.ref (G.1 1)]) hF (kX5_withFlag l G M O (M.1 1 5) x1 x2 _ h) (va_cwS 3 hts gX5_broken_X5_withFlag rfl rfl rfl zdX5_withFlag ⟨Nat.le_of_ble_eq_true rfl, Nat.le_of_ble_eq_true rfl⟩) (zpreS hSt hH [.int (M.1 1 5), .int x1, .int x2]) rfl rfl hl.1 rfl (lv_room (Nat.le_of_ble_eq_true rfl)) dX5_broken_48 ⟨Nat.zero_le _, Nat.zero_le _⟩) (fun r48 H locs h hH => ?_)
      refine zput hF hSt hH 1 (by decide) rfl (zE_1 _ _ _) (C := RX2) (T := TX2) (N := 16) rfl znX5_broken_X2 tyX2 tyX2_ok nmX2 5 (by decide) (List.mem_of_getElem? (i := 2) rfl) rfl (by decide +kernel) (Nat.le_of_ble_eq_true rfl) (x := r48) rfl dX5_broken_51 (fun H locs hH => ?_)
      refine lv_iload_n hx hb dX5_broken_54 rfl (lv_at hl 0 rfl) ?_
      exact hret _ _ _ _ _ _ dX5_broken_55 h hH
    · have h := h.2 q17
      refine lv_bipush (v := (-2 : Int32)) hx hb dX5_broken_20 (by decide) ?_
      exact hret _ _ _ _ _ _ dX5_broken_22 h hH
  · have h := h.2 q8
    refine lv_iconst (v := (-1 : Int32)) hx hb dX5_broken_11 (by decide) ?_
    exact hret _ _ _ _ _ _ dX5_broken_12 h hH
set_option maxRecDepth 100000 in
theorem kX5_broken (l : Launch) (G : zG) (M O : zM) (x1 : Int32) (x2 : Int32) (post : Int32 → zM → Prop) (h : pX5_broken M x1 x2 post) : Met l yX5_broken wsX5_broken ({ frames := 1, cells := 0, slots := 0, locals := 22 } : Room) (zPc G true M O [.ref (G.1 0), .int x1, .int x2]) (va_Qi post (zB G true O) (zAA G)) 0 0 (zAA G) :=
  zmet_i (by decide) rfl (Nat.le_of_ble_eq_true rfl) (fun hF hSt hret H locs ls hH hl => wX5_broken hF hSt hret x1 x2 H locs ls hH hl h)
end
theorem zdX5_asFlag : yX5_asFlag.cls ≠ "java/lang/invoke/MethodHandle" ∧ yX5_asFlag.cls ≠ "java/lang/invoke/VarHandle" ∧ (parseMethodDescriptor yX5_asFlag.desc).map (fun d => d.parameters.length) = some 1 := by decide +kernel
-- MixingRelays asFlag(Z)I
section
variable {p : Program} {l : Launch} {e : Env} {s : State} {m : MethodId} {args : Array Value} {below : List Frame} {meth : Method} {c : Code} {Q : State → Prop} {G : zG} {O : zM}
def pX5_asFlag_b9 (post : Int32 → Prop) (t0 : Int32) : Prop :=
  post t0
set_option maxHeartbeats 4000000 in
set_option maxRecDepth 100000 in
theorem wX5_asFlag_b9 {M : zM} {post : Int32 → Prop}  (hF : CallFix p m c cX5_asFlag 1 s args wsX5_asFlag RX5) (hSt : zSt G s) (hret : zRi p l e ({ frames := 0, cells := 0, slots := 0, locals := 0 } : Room) s m args below meth c Q cX5_asFlag G true O (fun r M1 => M1 = M ∧ post r)) (t0 : Int32) (H : Heap) (locs : List Loc) (ls : Array Slot) (hH : zH G true s H locs M O) (hl : lv_has ls 1 []) (h : pX5_asFlag_b9 post t0) : W p l e ({ frames := 0, cells := 0, slots := 0, locals := 0 } : Room) s m args below meth c H locs 0 0 Q (F0 m 9 ls [.int t0]) := by
  obtain ⟨hx, hb, hml, hown, hts⟩ := id hF
  unfold pX5_asFlag_b9 at h
  exact hret _ _ _ _ _ _ dX5_asFlag_9 ⟨rfl, h⟩ hH
def pX5_asFlag (x0 : Int32) (post : Int32 → Prop) : Prop :=
  (x0 = 0 → pX5_asFlag_b9 post (0 : Int32)) ∧ (¬ (x0 = 0) → pX5_asFlag_b9 post (1 : Int32))
set_option maxHeartbeats 4000000 in
set_option maxRecDepth 100000 in
theorem wX5_asFlag {M : zM} {post : Int32 → Prop} (hF : CallFix p m c cX5_asFlag 1 s args wsX5_asFlag RX5) (hSt : zSt G s) (hret : zRi p l e ({ frames := 0, cells := 0, slots := 0, locals := 0 } : Room) s m args below meth c Q cX5_asFlag G true O (fun r M1 => M1 = M ∧ post r)) (x0 : Int32) (H : Heap) (locs : List Loc) (ls : Array Slot) (hH : zH G true s H locs M O) (hl : lv_has ls 1 [(0, .int x0)]) (h : pX5_asFlag x0 post) : W p l e ({ frames := 0, cells := 0, slots := 0, locals := 0 } : Room) s m args below meth c H locs 0 0 Q (F0 m 0 ls []) := by
  obtain ⟨hx, hb, hml, hown, hts⟩ := id hF
  unfold pX5_asFlag at h
  refine lv_iload_n hx hb dX5_asFlag_0 rfl (lv_at hl 0 rfl) ?_
  refine lv_if_eq (tgt := 8) hx hb dX5_asFlag_1 (by decide) (fun q1 => ?_) (fun q1 => ?_)
  · have h := h.1 q1
    refine lv_iconst (v := (0 : Int32)) hx hb dX5_asFlag_8 (by decide) ?_
    exact wX5_asFlag_b9 hF hSt hret (0 : Int32) H locs ls hH (lv_sub hl [] rfl) h
  · have h := h.2 q1
    refine lv_iconst (v := (1 : Int32)) hx hb dX5_asFlag_4 (by decide) ?_
    refine lv_goto (tgt := 9) hx hb dX5_asFlag_5 (by decide) ?_
    exact wX5_asFlag_b9 hF hSt hret (1 : Int32) H locs ls hH (lv_sub hl [] rfl) h
set_option maxRecDepth 100000 in
theorem kX5_asFlag (l : Launch) (G : zG) (M O : zM) (x0 : Int32) (post : Int32 → Prop) (h : pX5_asFlag x0 post) : Met l yX5_asFlag wsX5_asFlag ({ frames := 0, cells := 0, slots := 0, locals := 0 } : Room) (zPc G true M O [.int x0]) (va_Qi (fun r M1 => M1 = M ∧ post r) (zB G true O) (zAA G)) 0 0 (zAA G) :=
  zmet_i (by decide) rfl (Nat.le_of_ble_eq_true rfl) (fun hF hSt hret H locs ls hH hl => wX5_asFlag hF hSt hret x0 H locs ls hH hl h)
end
theorem znX5_bend_X5 : ∀ w ∈ wsX50, w ∈ wsX5_bend := fun _ h => List.mem_cons_of_mem _ (List.mem_append_left _ (List.mem_append_right _ h))
theorem znX5_bend_X2 : ∀ w ∈ wsX20, w ∈ wsX5_bend := fun _ h => List.mem_cons_of_mem _ (List.mem_append_right _ h)
theorem zdX5_bend : yX5_bend.cls ≠ "java/lang/invoke/MethodHandle" ∧ yX5_bend.cls ≠ "java/lang/invoke/VarHandle" ∧ (parseMethodDescriptor yX5_bend.desc).map (fun d => d.parameters.length) = some 2 := by decide +kernel
-- MixingRelays bend(IJ)I
section
variable {p : Program} {l : Launch} {e : Env} {s : State} {m : MethodId} {args : Array Value} {below : List Frame} {meth : Method} {c : Code} {Q : State → Prop} {G : zG} {O : zM}
def pX5_bend_b32 (post : Int32 → zM → Prop) (x1 : Int32) (x2 : Int64) (t0 : Int32) (M : zM) : Prop :=
  pX5_asFlag t0 (fun r32 => vp_in x1 30 ∧ post r32 (zsj M 8 x1.toNatClampNeg x2))
set_option maxHeartbeats 4000000 in
set_option maxRecDepth 100000 in
theorem wX5_bend_b32 {post : Int32 → zM → Prop}  (hF : CallFix p m c cX5_bend 5 s args wsX5_bend RX5) (hSt : zSt G s) (hret : zRi p l e ({ frames := 1, cells := 0, slots := 0, locals := 21 } : Room) s m args below meth c Q cX5_bend G true O post) (x1 : Int32) (x2 : Int64) (t0 : Int32) (M : zM) (H : Heap) (locs : List Loc) (ls : Array Slot) (hH : zH G true s H locs M O) (hl : lv_has ls 5 [(0, .ref (G.1 0)), (1, .int x1), (2, .long x2)]) (h : pX5_bend_b32 post x1 x2 t0 M) : W p l e ({ frames := 1, cells := 0, slots := 0, locals := 21 } : Room) s m args below meth c H locs 0 0 Q (F0 m 32 ls [.int t0]) := by
  obtain ⟨hx, hb, hml, hown, hts⟩ := id hF
  unfold pX5_bend_b32 at h
  refine zcalliP hH (va_runS (As := [.int t0]) (rest := []) hF (kX5_asFlag l G M O t0 _ h) (va_cwS 1 hts gX5_bend_X5_asFlag rfl rfl rfl zdX5_asFlag ⟨Nat.le_of_ble_eq_true rfl, Nat.le_of_ble_eq_true rfl⟩) (zpreS hSt hH [.int t0]) rfl rfl hl.1 rfl (lv_room (Nat.le_of_ble_eq_true rfl)) dX5_bend_32 ⟨Nat.zero_le _, Nat.zero_le _⟩) (fun r32 H locs h hH => ?_)
  refine lv_istore (lv' := [(4, .int r32), (0, .ref (G.1 0)), (1, .int x1), (2, .long x2)]) hx hb dX5_bend_35 hl (by decide) rfl (fun ls hl => ?_)
  refine lv_aload_n hx hb dX5_bend_37 rfl (lv_at hl 1 rfl) ?_
  refine zget (v := .ref (G.1 1)) hF hSt hH 0 (by decide) rfl (zE_0 _ _ _) (C := RX5) (T := TX5) (N := 5) rfl znX5_bend_X5 0 (by decide) (List.mem_of_getElem? (i := 1) rfl) rfl dX5_bend_38 ?_
  refine zget (v := .ref (G.1 8)) hF hSt hH 1 (by decide) rfl (zE_1 _ _ _) (C := RX2) (T := TX2) (N := 16) rfl znX5_bend_X2 8 (by decide) (List.mem_of_getElem? (i := 2) rfl) rfl dX5_bend_41 ?_
  refine lv_iload_n hx hb dX5_bend_44 rfl (lv_at hl 2 rfl) ?_
  refine lv_lload_n hx hb dX5_bend_45 rfl (lv_at hl 3 rfl) ?_
  obtain ⟨q46, h⟩ := h
  refine zlast hF hSt hH 8 (by decide) rfl (zE_8 _) (x := x2) q46 dX5_bend_46 (fun H locs hH => ?_)
  refine lv_iload hx hb dX5_bend_47 (lv_at hl 0 rfl) ?_
  exact hret _ _ _ _ _ _ dX5_bend_49 h hH
def pX5_bend (M : zM) (x1 : Int32) (x2 : Int64) (post : Int32 → zM → Prop) : Prop :=
  pX2_isLine M x1 (fun r5 => (¬ (r5 = 0) → vp_in x1 30 ∧ ((lg_cmp (M.2 8 x1.toNatClampNeg) (0 : Int64)) = 0 → pX5_bend_b32 post x1 x2 (0 : Int32) M) ∧ (¬ ((lg_cmp (M.2 8 x1.toNatClampNeg) (0 : Int64)) = 0) → pX5_bend_b32 post x1 x2 (1 : Int32) M)) ∧ (r5 = 0 → post (-1 : Int32) M))
set_option maxHeartbeats 4000000 in
set_option maxRecDepth 100000 in
theorem wX5_bend {M : zM} {post : Int32 → zM → Prop} (hF : CallFix p m c cX5_bend 5 s args wsX5_bend RX5) (hSt : zSt G s) (hret : zRi p l e ({ frames := 1, cells := 0, slots := 0, locals := 21 } : Room) s m args below meth c Q cX5_bend G true O post) (x1 : Int32) (x2 : Int64) (H : Heap) (locs : List Loc) (ls : Array Slot) (hH : zH G true s H locs M O) (hl : lv_has ls 5 [(0, .ref (G.1 0)), (1, .int x1), (2, .long x2)]) (h : pX5_bend M x1 x2 post) : W p l e ({ frames := 1, cells := 0, slots := 0, locals := 21 } : Room) s m args below meth c H locs 0 0 Q (F0 m 0 ls []) := by
  obtain ⟨hx, hb, hml, hown, hts⟩ := id hF
  unfold pX5_bend at h
  refine lv_aload_n hx hb dX5_bend_0 rfl (lv_at hl 0 rfl) ?_
  refine zget (v := .ref (G.1 1)) hF hSt hH 0 (by decide) rfl (zE_0 _ _ _) (C := RX5) (T := TX5) (N := 5) rfl znX5_bend_X5 0 (by decide) (List.mem_of_getElem? (i := 1) rfl) rfl dX5_bend_1 ?_
  refine lv_iload_n hx hb dX5_bend_4 rfl (lv_at hl 1 rfl) ?_
  refine zcalliP hH (va_runV (As := [.int x1]) (rest := []) hF (kX2_isLine l G M O x1 _ h) (cwV 1 hts gX5_bend_X2_isLine rfl rfl rfl ⟨rfl, zdX2_isLine⟩ ⟨Nat.le_of_ble_eq_true rfl, Nat.le_of_ble_eq_true rfl⟩) (zpreV hSt hH 1 (by decide) rfl (zE_1 _ _ _) (q := (RX2, TX2, 16)) rfl [.int x1]) rfl rfl hl.1 rfl (lv_room (Nat.le_of_ble_eq_true rfl)) dX5_bend_5 ⟨Nat.zero_le _, Nat.zero_le _⟩) (fun r5 H locs h hH => ?_)
  refine lv_if_ne (tgt := 13) hx hb dX5_bend_8 (by decide) (fun q8 => ?_) (fun q8 => ?_)
  · have h := h.1 q8
    refine lv_aload_n hx hb dX5_bend_13 rfl (lv_at hl 0 rfl) ?_
    refine zget (v := .ref (G.1 1)) hF hSt hH 0 (by decide) rfl (zE_0 _ _ _) (C := RX5) (T := TX5) (N := 5) rfl znX5_bend_X5 0 (by decide) (List.mem_of_getElem? (i := 1) rfl) rfl dX5_bend_14 ?_
    refine zget (v := .ref (G.1 8)) hF hSt hH 1 (by decide) rfl (zE_1 _ _ _) (C := RX2) (T := TX2) (N := 16) rfl znX5_bend_X2 8 (by decide) (List.mem_of_getElem? (i := 2) rfl) rfl dX5_bend_17 ?_
    refine lv_iload_n hx hb dX5_bend_20 rfl (lv_at hl 1 rfl) ?_
    obtain ⟨q21, h⟩ := h
    refine zlald hF hSt hH 8 (by decide) rfl (zE_8 _ _ _) q21 dX5_bend_21 ?_
    refine lv_lconst (v := (0 : Int64)) hx hb dX5_bend_22 (by decide) ?_
    refine W.lcmp hx hb dX5_bend_23 ?_
    refine lv_if_eq (tgt := 31) hx hb dX5_bend_24 (by decide) (fun q24 => ?_) (fun q24 => ?_)
    · have h := h.1 q24
      refine lv_iconst (v := (0 : Int32)) hx hb dX5_bend_31 (by decide) ?_
      exact wX5_bend_b32 hF hSt hret x1 x2 (0 : Int32) M H locs ls hH (lv_sub hl [0, 1, 2] rfl) h
    · have h := h.2 q24
      refine lv_iconst (v := (1 : Int32)) hx hb dX5_bend_27 (by decide) ?_
      refine lv_goto (tgt := 32) hx hb dX5_bend_28 (by decide) ?_
      exact wX5_bend_b32 hF hSt hret x1 x2 (1 : Int32) M H locs ls hH (lv_sub hl [0, 1, 2] rfl) h
  · have h := h.2 q8
    refine lv_iconst (v := (-1 : Int32)) hx hb dX5_bend_11 (by decide) ?_
    exact hret _ _ _ _ _ _ dX5_bend_12 h hH
set_option maxRecDepth 100000 in
theorem kX5_bend (l : Launch) (G : zG) (M O : zM) (x1 : Int32) (x2 : Int64) (post : Int32 → zM → Prop) (h : pX5_bend M x1 x2 post) : Met l yX5_bend wsX5_bend ({ frames := 1, cells := 0, slots := 0, locals := 21 } : Room) (zPc G true M O [.ref (G.1 0), .int x1, .long x2]) (va_Qi post (zB G true O) (zAA G)) 0 0 (zAA G) :=
  zmet_i (by decide) rfl (Nat.le_of_ble_eq_true rfl) (fun hF hSt hret H locs ls hH hl => wX5_bend hF hSt hret x1 x2 H locs ls hH hl h)
end
theorem znX2_isPassing_X2 : ∀ w ∈ wsX20, w ∈ wsX2_isPassing := fun _ h => List.mem_cons_of_mem _ (List.mem_append_right _ h)
theorem zdX2_isPassing : yX2_isPassing.cls ≠ "java/lang/invoke/MethodHandle" ∧ yX2_isPassing.cls ≠ "java/lang/invoke/VarHandle" ∧ (parseMethodDescriptor yX2_isPassing.desc).map (fun d => d.parameters.length) = some 1 := by decide +kernel
-- MixingRelays$Net isPassing(I)Z
section
variable {p : Program} {l : Launch} {e : Env} {s : State} {m : MethodId} {args : Array Value} {below : List Frame} {meth : Method} {c : Code} {Q : State → Prop} {G : zG} {O : zM}
def pX2_isPassing_b64 (M : zM) (post : Int32 → Prop) (t0 : Int32) : Prop :=
  (t0 = 0 ∨ t0 = 1) ∧ post t0
set_option maxHeartbeats 4000000 in
set_option maxRecDepth 100000 in
theorem wX2_isPassing_b64 {M : zM} {post : Int32 → Prop}  (hF : CallFix p m c cX2_isPassing 4 s args wsX2_isPassing RX2) (hSt : zSt G s) (hret : zRz p l e ({ frames := 1, cells := 0, slots := 0, locals := 21 } : Room) s m args below meth c Q cX2_isPassing G true O (fun r M1 => M1 = M ∧ post r)) (t0 : Int32) (H : Heap) (locs : List Loc) (ls : Array Slot) (hH : zH G true s H locs M O) (hl : lv_has ls 4 []) (h : pX2_isPassing_b64 M post t0) : W p l e ({ frames := 1, cells := 0, slots := 0, locals := 21 } : Room) s m args below meth c H locs 0 0 Q (F0 m 64 ls [.int t0]) := by
  obtain ⟨hx, hb, hml, hown, hts⟩ := id hF
  unfold pX2_isPassing_b64 at h
  exact hret _ _ _ _ _ _ dX2_isPassing_64 ⟨h.1, rfl, h.2⟩ hH
def pX2_isPassing_b43 (M : zM) (post : Int32 → Prop) (ag15 : Int32 → Int32 → Int32 → Prop) (x1 : Int32) (x3 : Int32) (t0 : Int32) (t1 : Int32) : Prop :=
  pX5_asFlag t0 (fun r43 => ag15 x1 (t1 + r43) (x3 + (1 : Int32)))
set_option maxHeartbeats 4000000 in
set_option maxRecDepth 100000 in
theorem wX2_isPassing_b43 {M : zM} {post : Int32 → Prop} {ag15 : Int32 → Int32 → Int32 → Prop} (hF : CallFix p m c cX2_isPassing 4 s args wsX2_isPassing RX2) (hSt : zSt G s) (hret : zRz p l e ({ frames := 1, cells := 0, slots := 0, locals := 21 } : Room) s m args below meth c Q cX2_isPassing G true O (fun r M1 => M1 = M ∧ post r)) (hag15 : ∀ (x1 : Int32) (x2 : Int32) (x3 : Int32) (H : Heap) (locs : List Loc) (ls : Array Slot), ag15 x1 x2 x3 → zH G true s H locs M O → lv_has ls 4 [(0, .ref (G.1 1)), (1, .int x1), (2, .int x2), (3, .int x3)] → W p l e ({ frames := 1, cells := 0, slots := 0, locals := 21 } : Room) s m args below meth c H locs 0 0 Q (F0 m 15 ls [])) (x1 : Int32) (x3 : Int32) (t0 : Int32) (t1 : Int32) (H : Heap) (locs : List Loc) (ls : Array Slot) (hH : zH G true s H locs M O) (hl : lv_has ls 4 [(0, .ref (G.1 1)), (1, .int x1), (3, .int x3)]) (h : pX2_isPassing_b43 M post ag15 x1 x3 t0 t1) : W p l e ({ frames := 1, cells := 0, slots := 0, locals := 21 } : Room) s m args below meth c H locs 0 0 Q (F0 m 43 ls [.int t0, .int t1]) := by
  obtain ⟨hx, hb, hml, hown, hts⟩ := id hF
  unfold pX2_isPassing_b43 at h
  refine zcalliP hH (va_runSN (As := [.int t0]) (rest := [.int t1]) hF (kX5_asFlag l G M O t0 _ h) ⟨va_cnB 1 hts gX2_isPassing_X5_asFlag_n70 rfl rfl rfl (hSt.2.2.1 _ zNest_X2_70) (hts _ (List.mem_of_getElem? (i := 11) rfl)) zdX5_asFlag ⟨Nat.le_of_ble_eq_true rfl, Nat.le_of_ble_eq_true rfl⟩, hts _ (List.mem_of_getElem? (i := 13) rfl), trivial⟩ (zpreS hSt hH [.int t0]) rfl rfl hl.1 rfl (lv_room (Nat.le_of_ble_eq_true rfl)) dX2_isPassing_43 ⟨Nat.zero_le _, Nat.zero_le _⟩) (fun r43 H locs h hH => ?_)
  refine lv_iadd hx hb dX2_isPassing_46 ?_
  refine lv_istore_n (lv' := [(2, .int (t1 + r43)), (0, .ref (G.1 1)), (1, .int x1), (3, .int x3)]) hx hb dX2_isPassing_47 rfl hl (by decide) rfl (fun ls hl => ?_)
  refine lv_iinc (v := (x3 + (1 : Int32))) (lv' := [(3, .int (x3 + (1 : Int32))), (2, .int (t1 + r43)), (0, .ref (G.1 1)), (1, .int x1)]) hx hb dX2_isPassing_48 hl (k := 3) rfl rfl (by decide) rfl (fun ls hl => ?_)
  refine lv_goto (tgt := 15) hx hb dX2_isPassing_51 (by decide) ?_
  exact hag15 x1 (t1 + r43) (x3 + (1 : Int32)) H locs ls h hH (lv_sub hl [2, 3, 1, 0] rfl)
def pX2_isPassing_b15 (M : zM) (post : Int32 → Prop) (ag15 : Int32 → Int32 → Int32 → Prop) (x1 : Int32) (x2 : Int32) (x3 : Int32) : Prop :=
  pX2_insOf M x1 (fun r18 => (r18 ≤ x3 → ((1 : Int32) < x2 → pX2_isPassing_b64 M post (0 : Int32)) ∧ (¬ ((1 : Int32) < x2) → pX2_isPassing_b64 M post (1 : Int32))) ∧ (¬ (r18 ≤ x3) → pX5_slot x1 x3 (fun r31 => vp_in r31 900 ∧ ((M.1 10 r31.toNatClampNeg) = 0 → pX2_isPassing_b43 M post ag15 x1 x3 (0 : Int32) x2) ∧ (¬ ((M.1 10 r31.toNatClampNeg) = 0) → pX2_isPassing_b43 M post ag15 x1 x3 (1 : Int32) x2))))
set_option maxHeartbeats 4000000 in
set_option maxRecDepth 100000 in
theorem wX2_isPassing_b15 {M : zM} {post : Int32 → Prop} {ag15 : Int32 → Int32 → Int32 → Prop} (hF : CallFix p m c cX2_isPassing 4 s args wsX2_isPassing RX2) (hSt : zSt G s) (hret : zRz p l e ({ frames := 1, cells := 0, slots := 0, locals := 21 } : Room) s m args below meth c Q cX2_isPassing G true O (fun r M1 => M1 = M ∧ post r)) (hag15 : ∀ (x1 : Int32) (x2 : Int32) (x3 : Int32) (H : Heap) (locs : List Loc) (ls : Array Slot), ag15 x1 x2 x3 → zH G true s H locs M O → lv_has ls 4 [(0, .ref (G.1 1)), (1, .int x1), (2, .int x2), (3, .int x3)] → W p l e ({ frames := 1, cells := 0, slots := 0, locals := 21 } : Room) s m args below meth c H locs 0 0 Q (F0 m 15 ls [])) (x1 : Int32) (x2 : Int32) (x3 : Int32) (H : Heap) (locs : List Loc) (ls : Array Slot) (hH : zH G true s H locs M O) (hl : lv_has ls 4 [(0, .ref (G.1 1)), (1, .int x1), (2, .int x2), (3, .int x3)]) (h : pX2_isPassing_b15 M post ag15 x1 x2 x3) : W p l e ({ frames := 1, cells := 0, slots := 0, locals := 21 } : Room) s m args below meth c H locs 0 0 Q (F0 m 15 ls []) := by
  obtain ⟨hx, hb, hml, hown, hts⟩ := id hF
  unfold pX2_isPassing_b15 at h
  refine lv_iload_n hx hb dX2_isPassing_15 rfl (lv_at hl 3 rfl) ?_
  refine lv_aload_n hx hb dX2_isPassing_16 rfl (lv_at hl 0 rfl) ?_
  refine lv_iload_n hx hb dX2_isPassing_17 rfl (lv_at hl 1 rfl) ?_
  refine zcalliP hH (va_runV (As := [.int x1]) (rest := [.int x3]) hF (kX2_insOf l G M O x1 _ h) (cwV 1 hts gX2_isPassing_X2_insOf rfl rfl rfl ⟨rfl, zdX2_insOf⟩ ⟨Nat.le_of_ble_eq_true rfl, Nat.le_of_ble_eq_true rfl⟩) (zpreV hSt hH 1 (by decide) rfl (zE_1 _ _ _) (q := (RX2, TX2, 16)) rfl [.int x1]) rfl rfl hl.1 rfl (lv_room (Nat.le_of_ble_eq_true rfl)) dX2_isPassing_18 ⟨Nat.zero_le _, Nat.zero_le _⟩) (fun r18 H locs h hH => ?_)
  refine lv_icmp_ge (tgt := 54) hx hb dX2_isPassing_21 (by decide) (fun q21 => ?_) (fun q21 => ?_)
  · have h := h.1 q21
    refine lv_iload_n hx hb dX2_isPassing_54 rfl (lv_at hl 2 rfl) ?_
    refine lv_iconst (v := (1 : Int32)) hx hb dX2_isPassing_55 (by decide) ?_
    refine lv_icmp_gt (tgt := 63) hx hb dX2_isPassing_56 (by decide) (fun q56 => ?_) (fun q56 => ?_)
    · have h := h.1 q56
      refine lv_iconst (v := (0 : Int32)) hx hb dX2_isPassing_63 (by decide) ?_
      exact wX2_isPassing_b64 hF hSt hret (0 : Int32) H locs ls hH (lv_sub hl [] rfl) h
    · have h := h.2 q56
      refine lv_iconst (v := (1 : Int32)) hx hb dX2_isPassing_59 (by decide) ?_
      refine lv_goto (tgt := 64) hx hb dX2_isPassing_60 (by decide) ?_
      exact wX2_isPassing_b64 hF hSt hret (1 : Int32) H locs ls hH (lv_sub hl [] rfl) h
  · have h := h.2 q21
    refine lv_iload_n hx hb dX2_isPassing_24 rfl (lv_at hl 2 rfl) ?_
    refine lv_aload_n hx hb dX2_isPassing_25 rfl (lv_at hl 0 rfl) ?_
    refine zget (v := .ref (G.1 10)) hF hSt hH 1 (by decide) rfl (zE_1 _ _ _) (C := RX2) (T := TX2) (N := 16) rfl znX2_isPassing_X2 10 (by decide) (List.mem_of_getElem? (i := 2) rfl) rfl dX2_isPassing_26 ?_
    refine lv_iload_n hx hb dX2_isPassing_29 rfl (lv_at hl 1 rfl) ?_
    refine lv_iload_n hx hb dX2_isPassing_30 rfl (lv_at hl 3 rfl) ?_
    refine zcalliP hH (va_runSN (As := [.int x1, .int x3]) (rest := [.ref (G.1 10), .int x2]) hF (kX5_slot l G M O x1 x3 _ h) ⟨va_cnB 2 hts gX2_isPassing_X5_slot_n62 rfl rfl rfl (hSt.2.2.1 _ zNest_X2_62) (hts _ (List.mem_of_getElem? (i := 11) rfl)) zdX5_slot ⟨Nat.le_of_ble_eq_true rfl, Nat.le_of_ble_eq_true rfl⟩, hts _ (List.mem_of_getElem? (i := 10) rfl), trivial⟩ (zpreS hSt hH [.int x1, .int x3]) rfl rfl hl.1 rfl (lv_room (Nat.le_of_ble_eq_true rfl)) dX2_isPassing_31 ⟨Nat.zero_le _, Nat.zero_le _⟩) (fun r31 H locs h hH => ?_)
    obtain ⟨q34, h⟩ := h
    refine zald hF hSt hH 10 (by decide) rfl (zE_10 _ _ _) q34 dX2_isPassing_34 ?_
    refine lv_if_eq (tgt := 42) hx hb dX2_isPassing_35 (by decide) (fun q35 => ?_) (fun q35 => ?_)
    · have h := h.1 q35
      refine lv_iconst (v := (0 : Int32)) hx hb dX2_isPassing_42 (by decide) ?_
      exact wX2_isPassing_b43 hF hSt hret hag15 x1 x3 (0 : Int32) x2 H locs ls hH (lv_sub hl [0, 1, 3] rfl) h
    · have h := h.2 q35
      refine lv_iconst (v := (1 : Int32)) hx hb dX2_isPassing_38 (by decide) ?_
      refine lv_goto (tgt := 43) hx hb dX2_isPassing_39 (by decide) ?_
      exact wX2_isPassing_b43 hF hSt hret hag15 x1 x3 (1 : Int32) x2 H locs ls hH (lv_sub hl [0, 1, 3] rfl) h
def pX2_isPassing_L15 (M : zM) (post : Int32 → Prop) (x1 : Int32) (x2 : Int32) (x3 : Int32) : Prop :=
  ∃ I : Nat → Int32 → Int32 → Int32 → Prop, (∃ n, I n x1 x2 x3) ∧ ∀ n x1 x2 x3, I n x1 x2 x3 → pX2_isPassing_b15 M post (fun x1 x2 x3 => ∃ k, k < n ∧ I k x1 x2 x3) x1 x2 x3
set_option maxHeartbeats 4000000 in
theorem wX2_isPassing_L15 {M : zM} {post : Int32 → Prop}  (hF : CallFix p m c cX2_isPassing 4 s args wsX2_isPassing RX2) (hSt : zSt G s) (hret : zRz p l e ({ frames := 1, cells := 0, slots := 0, locals := 21 } : Room) s m args below meth c Q cX2_isPassing G true O (fun r M1 => M1 = M ∧ post r)) (x1 : Int32) (x2 : Int32) (x3 : Int32) (H : Heap) (locs : List Loc) (ls : Array Slot) (hH : zH G true s H locs M O) (hl : lv_has ls 4 [(0, .ref (G.1 1)), (1, .int x1), (2, .int x2), (3, .int x3)]) (h : pX2_isPassing_L15 M post x1 x2 x3) : W p l e ({ frames := 1, cells := 0, slots := 0, locals := 21 } : Room) s m args below meth c H locs 0 0 Q (F0 m 15 ls []) := by
  obtain ⟨I, ⟨n, hI⟩, hs⟩ := h
  have key : ∀ (n : Nat) (x1 : Int32) (x2 : Int32) (x3 : Int32) (H : Heap) (locs : List Loc) (ls : Array Slot), I n x1 x2 x3 → zH G true s H locs M O → lv_has ls 4 [(0, .ref (G.1 1)), (1, .int x1), (2, .int x2), (3, .int x3)] → W p l e ({ frames := 1, cells := 0, slots := 0, locals := 21 } : Room) s m args below meth c H locs 0 0 Q (F0 m 15 ls []) := by
    intro n
    induction n using Nat.strongRecOn with
    | _ n ih =>
      intro x1 x2 x3 H locs ls hI hH hl
      exact wX2_isPassing_b15 hF hSt hret (fun x1 x2 x3 H locs ls h hH hl => by obtain ⟨k, hk, hI⟩ := h; exact ih k hk x1 x2 x3 H locs ls hI hH hl) x1 x2 x3 H locs ls hH hl (hs n x1 x2 x3 hI)
  exact key n x1 x2 x3 H locs ls hI hH hl
def pX2_isPassing (M : zM) (x1 : Int32) (post : Int32 → Prop) : Prop :=
  vp_in x1 30 ∧ (¬ ((M.1 6 x1.toNatClampNeg) = 0) → pX2_isPassing_L15 M post x1 (0 : Int32) (0 : Int32)) ∧ ((M.1 6 x1.toNatClampNeg) = 0 → ((0 : Int32) = 0 ∨ (0 : Int32) = 1) ∧ post (0 : Int32))
set_option maxHeartbeats 4000000 in
set_option maxRecDepth 100000 in
theorem wX2_isPassing {M : zM} {post : Int32 → Prop} (hF : CallFix p m c cX2_isPassing 4 s args wsX2_isPassing RX2) (hSt : zSt G s) (hret : zRz p l e ({ frames := 1, cells := 0, slots := 0, locals := 21 } : Room) s m args below meth c Q cX2_isPassing G true O (fun r M1 => M1 = M ∧ post r)) (x1 : Int32) (H : Heap) (locs : List Loc) (ls : Array Slot) (hH : zH G true s H locs M O) (hl : lv_has ls 4 [(0, .ref (G.1 1)), (1, .int x1)]) (h : pX2_isPassing M x1 post) : W p l e ({ frames := 1, cells := 0, slots := 0, locals := 21 } : Room) s m args below meth c H locs 0 0 Q (F0 m 0 ls []) := by
  obtain ⟨hx, hb, hml, hown, hts⟩ := id hF
  unfold pX2_isPassing at h
  refine lv_aload_n hx hb dX2_isPassing_0 rfl (lv_at hl 0 rfl) ?_
  refine zget (v := .ref (G.1 6)) hF hSt hH 1 (by decide) rfl (zE_1 _ _ _) (C := RX2) (T := TX2) (N := 16) rfl znX2_isPassing_X2 6 (by decide) (List.mem_of_getElem? (i := 1) rfl) rfl dX2_isPassing_1 ?_
  refine lv_iload_n hx hb dX2_isPassing_4 rfl (lv_at hl 1 rfl) ?_
  obtain ⟨q5, h⟩ := h
  refine zald hF hSt hH 6 (by decide) rfl (zE_6 _ _ _) q5 dX2_isPassing_5 ?_
  refine lv_if_ne (tgt := 11) hx hb dX2_isPassing_6 (by decide) (fun q6 => ?_) (fun q6 => ?_)
  · have h := h.1 q6
    refine lv_iconst (v := (0 : Int32)) hx hb dX2_isPassing_11 (by decide) ?_
    refine lv_istore_n (lv' := [(2, .int (0 : Int32)), (0, .ref (G.1 1)), (1, .int x1)]) hx hb dX2_isPassing_12 rfl hl (by decide) rfl (fun ls hl => ?_)
    refine lv_iconst (v := (0 : Int32)) hx hb dX2_isPassing_13 (by decide) ?_
    refine lv_istore_n (lv' := [(3, .int (0 : Int32)), (2, .int (0 : Int32)), (0, .ref (G.1 1)), (1, .int x1)]) hx hb dX2_isPassing_14 rfl hl (by decide) rfl (fun ls hl => ?_)
    exact wX2_isPassing_L15 hF hSt hret x1 (0 : Int32) (0 : Int32) H locs ls hH (lv_sub hl [2, 3, 1, 0] rfl) h
  · have h := h.2 q6
    refine lv_iconst (v := (0 : Int32)) hx hb dX2_isPassing_9 (by decide) ?_
    exact hret _ _ _ _ _ _ dX2_isPassing_10 ⟨h.1, rfl, h.2⟩ hH
set_option maxRecDepth 100000 in
theorem kX2_isPassing (l : Launch) (G : zG) (M O : zM) (x1 : Int32) (post : Int32 → Prop) (h : pX2_isPassing M x1 post) : Met l yX2_isPassing wsX2_isPassing ({ frames := 1, cells := 0, slots := 0, locals := 21 } : Room) (zPc G true M O [.ref (G.1 1), .int x1]) (va_Qi (fun r M1 => M1 = M ∧ post r) (zB G true O) (zAA G)) 0 0 (zAA G) :=
  zmet_z (by decide) rfl (Nat.le_of_ble_eq_true rfl) (fun hF hSt hret H locs ls hH hl => wX2_isPassing hF hSt hret x1 H locs ls hH hl h)
end
