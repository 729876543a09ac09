theorem znX5_relay_X5 : ∀ w ∈ wsX50, w ∈ wsX5_relay := fun _ h => List.mem_cons_of_mem _ (List.mem_append_left _ (List.mem_append_right _ h))
theorem znX5_relay_X2 : ∀ w ∈ wsX20, w ∈ wsX5_relay := fun _ h => List.mem_cons_of_mem _ (List.mem_append_right _ h)
theorem zdX5_relay : yX5_relay.cls ≠ "java/lang/invoke/MethodHandle" ∧ yX5_relay.cls ≠ "java/lang/invoke/VarHandle" ∧ (parseMethodDescriptor yX5_relay.desc).map (fun d => d.parameters.length) = some 0 := by decide +kernel
-- MixingRelays relay()I
section
variable {p : Program} {l : Launch} {e : Env} {s : State} {m : MethodId} {args : Array Value} {below : List Frame} {meth : Method} {c : Code} {Q : State → Prop} {G : zG} {O : zM}
def pX5_relay (M : zM)  (post : Int32 → zM → Prop) : Prop :=
  ((M.1 1 0) < (12 : Int32) → post (((zsi M 1 0 ((M.1 1 0) + (1 : Int32))).1 1 0) - (1 : Int32)) (zsi M 1 0 ((M.1 1 0) + (1 : Int32)))) ∧ (¬ ((M.1 1 0) < (12 : Int32)) → post (-4 : Int32) M)
set_option maxHeartbeats 4000000 in
set_option maxRecDepth 100000 in
theorem wX5_relay {M : zM} {post : Int32 → zM → Prop} (hF : CallFix p m c cX5_relay 1 s args wsX5_relay RX5) (hSt : zSt G s) (hret : zRi p l e ({ frames := 0, cells := 0, slots := 0, locals := 0 } : Room) s m args below meth c Q cX5_relay G true O post)  (H : Heap) (locs : List Loc) (ls : Array Slot) (hH : zH G true s H locs M O) (hl : lv_has ls 1 [(0, .ref (G.1 0))]) (h : pX5_relay M  post) : W p l e ({ frames := 0, cells := 0, slots := 0, locals := 0 } : Room) s m args below meth c H locs 0 0 Q (F0 m 0 ls []) := by
  obtain ⟨hx, hb, hml, hown, hts⟩ := id hF
  unfold pX5_relay at h
  refine lv_aload_n hx hb dX5_relay_0 rfl (lv_at hl 0 rfl) ?_
  refine zget (v := .ref (G.1 1)) hF hSt hH 0 (by decide) rfl (zE_0 _ _ _) (C := RX5) (T := TX5) (N := 5) rfl znX5_relay_X5 0 (by decide) (List.mem_of_getElem? (i := 1) rfl) rfl dX5_relay_1 ?_
  refine zget (v := .int (M.1 1 0)) hF hSt hH 1 (by decide) rfl (zE_1 _ _ _) (C := RX2) (T := TX2) (N := 16) rfl znX5_relay_X2 0 (by decide) (List.mem_of_getElem? (i := 2) rfl) rfl dX5_relay_4 ?_
  refine lv_bipush (v := (12 : Int32)) hx hb dX5_relay_7 (by decide) ?_
  refine lv_icmp_lt (tgt := 15) hx hb dX5_relay_9 (by decide) (fun q9 => ?_) (fun q9 => ?_)
  · have h := h.1 q9
    refine lv_aload_n hx hb dX5_relay_15 rfl (lv_at hl 0 rfl) ?_
    refine zget (v := .ref (G.1 1)) hF hSt hH 0 (by decide) rfl (zE_0 _ _ _) (C := RX5) (T := TX5) (N := 5) rfl znX5_relay_X5 0 (by decide) (List.mem_of_getElem? (i := 1) rfl) rfl dX5_relay_16 ?_
    refine lv_dup hx hb dX5_relay_19 rfl ?_
    refine zget (v := .int (M.1 1 0)) hF hSt hH 1 (by decide) rfl (zE_1 _ _ _) (C := RX2) (T := TX2) (N := 16) rfl znX5_relay_X2 0 (by decide) (List.mem_of_getElem? (i := 2) rfl) rfl dX5_relay_20 ?_
    refine lv_iconst (v := (1 : Int32)) hx hb dX5_relay_23 (by decide) ?_
    refine lv_iadd hx hb dX5_relay_24 ?_
    refine zput hF hSt hH 1 (by decide) rfl (zE_1 _ _ _) (C := RX2) (T := TX2) (N := 16) rfl znX5_relay_X2 tyX2 tyX2_ok nmX2 0 (by decide) (List.mem_of_getElem? (i := 2) rfl) rfl (by decide +kernel) (Nat.le_of_ble_eq_true rfl) (x := ((M.1 1 0) + (1 : Int32))) rfl dX5_relay_25 (fun H locs hH => ?_)
    refine lv_aload_n hx hb dX5_relay_28 rfl (lv_at hl 0 rfl) ?_
    refine zget (v := .ref (G.1 1)) hF hSt hH 0 (by decide) rfl (zE_0 _ _ _) (C := RX5) (T := TX5) (N := 5) rfl znX5_relay_X5 0 (by decide) (List.mem_of_getElem? (i := 1) rfl) rfl dX5_relay_29 ?_
    refine zget (v := .int ((zsi M 1 0 ((M.1 1 0) + (1 : Int32))).1 1 0)) hF hSt hH 1 (by decide) rfl (zE_1 _ _ _) (C := RX2) (T := TX2) (N := 16) rfl znX5_relay_X2 0 (by decide) (List.mem_of_getElem? (i := 2) rfl) rfl dX5_relay_32 ?_
    refine lv_iconst (v := (1 : Int32)) hx hb dX5_relay_35 (by decide) ?_
    refine lv_isub hx hb dX5_relay_36 ?_
    exact hret _ _ _ _ _ _ dX5_relay_37 h hH
  · have h := h.2 q9
    refine lv_bipush (v := (-4 : Int32)) hx hb dX5_relay_12 (by decide) ?_
    exact hret _ _ _ _ _ _ dX5_relay_14 h hH
set_option maxRecDepth 100000 in
theorem kX5_relay (l : Launch) (G : zG) (M O : zM)  (post : Int32 → zM → Prop) (h : pX5_relay M  post) : Met l yX5_relay wsX5_relay ({ frames := 0, cells := 0, slots := 0, locals := 0 } : Room) (zPc G true M O [.ref (G.1 0)]) (va_Qi post (zB G true O) (zAA G)) 0 0 (zAA G) :=
  zmet_i (by decide) rfl (Nat.le_of_ble_eq_true rfl) (fun hF hSt hret H locs ls hH hl => wX5_relay hF hSt hret  H locs ls hH hl h)
end
theorem znX2_isRelay_X2 : ∀ w ∈ wsX20, w ∈ wsX2_isRelay := fun _ h => List.mem_cons_of_mem _ (List.mem_append_right _ h)
theorem zdX2_isRelay : yX2_isRelay.cls ≠ "java/lang/invoke/MethodHandle" ∧ yX2_isRelay.cls ≠ "java/lang/invoke/VarHandle" ∧ (parseMethodDescriptor yX2_isRelay.desc).map (fun d => d.parameters.length) = some 1 := by decide +kernel
-- MixingRelays$Net isRelay(I)Z
section
variable {p : Program} {l : Launch} {e : Env} {s : State} {m : MethodId} {args : Array Value} {below : List Frame} {meth : Method} {c : Code} {Q : State → Prop} {G : zG} {O : zM}
def pX2_isRelay_b17 (M : zM) (post : Int32 → Prop) (t0 : Int32) : Prop :=
  (t0 = 0 ∨ t0 = 1) ∧ post t0
set_option maxHeartbeats 4000000 in
set_option maxRecDepth 100000 in
theorem wX2_isRelay_b17 {M : zM} {post : Int32 → Prop}  (hF : CallFix p m c cX2_isRelay 2 s args wsX2_isRelay RX2) (hSt : zSt G s) (hret : zRz p l e ({ frames := 0, cells := 0, slots := 0, locals := 0 } : Room) s m args below meth c Q cX2_isRelay G true O (fun r M1 => M1 = M ∧ post r)) (t0 : Int32) (H : Heap) (locs : List Loc) (ls : Array Slot) (hH : zH G true s H locs M O) (hl : lv_has ls 2 []) (h : pX2_isRelay_b17 M post t0) : W p l e ({ frames := 0, cells := 0, slots := 0, locals := 0 } : Room) s m args below meth c H locs 0 0 Q (F0 m 17 ls [.int t0]) := by
  obtain ⟨hx, hb, hml, hown, hts⟩ := id hF
  unfold pX2_isRelay_b17 at h
  exact hret _ _ _ _ _ _ dX2_isRelay_17 ⟨h.1, rfl, h.2⟩ hH
def pX2_isRelay_b16 (M : zM) (post : Int32 → Prop) : Prop :=
  pX2_isRelay_b17 M post (0 : Int32)
set_option maxHeartbeats 4000000 in
set_option maxRecDepth 100000 in
theorem wX2_isRelay_b16 {M : zM} {post : Int32 → Prop}  (hF : CallFix p m c cX2_isRelay 2 s args wsX2_isRelay RX2) (hSt : zSt G s) (hret : zRz p l e ({ frames := 0, cells := 0, slots := 0, locals := 0 } : Room) s m args below meth c Q cX2_isRelay G true O (fun r M1 => M1 = M ∧ post r))  (H : Heap) (locs : List Loc) (ls : Array Slot) (hH : zH G true s H locs M O) (hl : lv_has ls 2 []) (h : pX2_isRelay_b16 M post) : W p l e ({ frames := 0, cells := 0, slots := 0, locals := 0 } : Room) s m args below meth c H locs 0 0 Q (F0 m 16 ls []) := by
  obtain ⟨hx, hb, hml, hown, hts⟩ := id hF
  unfold pX2_isRelay_b16 at h
  refine lv_iconst (v := (0 : Int32)) hx hb dX2_isRelay_16 (by decide) ?_
  exact wX2_isRelay_b17 hF hSt hret (0 : Int32) H locs ls hH (lv_sub hl [] rfl) h
def pX2_isRelay (M : zM) (x1 : Int32) (post : Int32 → Prop) : Prop :=
  (x1 < 0 → pX2_isRelay_b16 M post) ∧ (¬ (x1 < 0) → ((M.1 1 0) ≤ x1 → pX2_isRelay_b16 M post) ∧ (¬ ((M.1 1 0) ≤ x1) → pX2_isRelay_b17 M post (1 : Int32)))
set_option maxHeartbeats 4000000 in
set_option maxRecDepth 100000 in
theorem wX2_isRelay {M : zM} {post : Int32 → Prop} (hF : CallFix p m c cX2_isRelay 2 s args wsX2_isRelay RX2) (hSt : zSt G s) (hret : zRz p l e ({ frames := 0, cells := 0, slots := 0, locals := 0 } : Room) s m args below meth c Q cX2_isRelay G true O (fun r M1 => M1 = M ∧ post r)) (x1 : Int32) (H : Heap) (locs : List Loc) (ls : Array Slot) (hH : zH G true s H locs M O) (hl : lv_has ls 2 [(0, .ref (G.1 1)), (1, .int x1)]) (h : pX2_isRelay M x1 post) : W p l e ({ frames := 0, cells := 0, slots := 0, locals := 0 } : Room) s m args below meth c H locs 0 0 Q (F0 m 0 ls []) := by
  obtain ⟨hx, hb, hml, hown, hts⟩ := id hF
  unfold pX2_isRelay at h
  refine lv_iload_n hx hb dX2_isRelay_0 rfl (lv_at hl 1 rfl) ?_
  refine lv_if_lt (tgt := 16) hx hb dX2_isRelay_1 (by decide) (fun q1 => ?_) (fun q1 => ?_)
  · have h := h.1 q1
    exact wX2_isRelay_b16 hF hSt hret  H locs ls hH (lv_sub hl [] rfl) h
  · have h := h.2 q1
    refine lv_iload_n hx hb dX2_isRelay_4 rfl (lv_at hl 1 rfl) ?_
    refine lv_aload_n hx hb dX2_isRelay_5 rfl (lv_at hl 0 rfl) ?_
    refine zget (v := .int (M.1 1 0)) hF hSt hH 1 (by decide) rfl (zE_1 _ _ _) (C := RX2) (T := TX2) (N := 16) rfl znX2_isRelay_X2 0 (by decide) (List.mem_of_getElem? (i := 1) rfl) rfl dX2_isRelay_6 ?_
    refine lv_icmp_ge (tgt := 16) hx hb dX2_isRelay_9 (by decide) (fun q9 => ?_) (fun q9 => ?_)
    · have h := h.1 q9
      exact wX2_isRelay_b16 hF hSt hret  H locs ls hH (lv_sub hl [] rfl) h
    · have h := h.2 q9
      refine lv_iconst (v := (1 : Int32)) hx hb dX2_isRelay_12 (by decide) ?_
      refine lv_goto (tgt := 17) hx hb dX2_isRelay_13 (by decide) ?_
      exact wX2_isRelay_b17 hF hSt hret (1 : Int32) H locs ls hH (lv_sub hl [] rfl) h
set_option maxRecDepth 100000 in
theorem kX2_isRelay (l : Launch) (G : zG) (M O : zM) (x1 : Int32) (post : Int32 → Prop) (h : pX2_isRelay M x1 post) : Met l yX2_isRelay wsX2_isRelay ({ frames := 0, cells := 0, slots := 0, locals := 0 } : Room) (zPc G true M O [.ref (G.1 1), .int x1]) (va_Qi (fun r M1 => M1 = M ∧ post r) (zB G true O) (zAA G)) 0 0 (zAA G) :=
  zmet_z (by decide) rfl (Nat.le_of_ble_eq_true rfl) (fun hF hSt hret H locs ls hH hl => wX2_isRelay hF hSt hret x1 H locs ls hH hl h)
end
theorem zdX5_slot : yX5_slot.cls ≠ "java/lang/invoke/MethodHandle" ∧ yX5_slot.cls ≠ "java/lang/invoke/VarHandle" ∧ (parseMethodDescriptor yX5_slot.desc).map (fun d => d.parameters.length) = some 2 := by decide +kernel
-- MixingRelays slot(II)I
section
variable {p : Program} {l : Launch} {e : Env} {s : State} {m : MethodId} {args : Array Value} {below : List Frame} {meth : Method} {c : Code} {Q : State → Prop} {G : zG} {O : zM}
def pX5_slot (x0 : Int32) (x1 : Int32) (post : Int32 → Prop) : Prop :=
  post ((x0 * (30 : Int32)) + x1)
set_option maxHeartbeats 4000000 in
set_option maxRecDepth 100000 in
theorem wX5_slot {M : zM} {post : Int32 → Prop} (hF : CallFix p m c cX5_slot 2 s args wsX5_slot RX5) (hSt : zSt G s) (hret : zRi p l e ({ frames := 0, cells := 0, slots := 0, locals := 0 } : Room) s m args below meth c Q cX5_slot G true O (fun r M1 => M1 = M ∧ post r)) (x0 : Int32) (x1 : Int32) (H : Heap) (locs : List Loc) (ls : Array Slot) (hH : zH G true s H locs M O) (hl : lv_has ls 2 [(0, .int x0), (1, .int x1)]) (h : pX5_slot x0 x1 post) : W p l e ({ frames := 0, cells := 0, slots := 0, locals := 0 } : Room) s m args below meth c H locs 0 0 Q (F0 m 0 ls []) := by
  obtain ⟨hx, hb, hml, hown, hts⟩ := id hF
  unfold pX5_slot at h
  refine lv_iload_n hx hb dX5_slot_0 rfl (lv_at hl 0 rfl) ?_
  refine lv_bipush (v := (30 : Int32)) hx hb dX5_slot_1 (by decide) ?_
  refine lv_imul hx hb dX5_slot_3 ?_
  refine lv_iload_n hx hb dX5_slot_4 rfl (lv_at hl 1 rfl) ?_
  refine lv_iadd hx hb dX5_slot_5 ?_
  exact hret _ _ _ _ _ _ dX5_slot_6 ⟨rfl, h⟩ hH
set_option maxRecDepth 100000 in
theorem kX5_slot (l : Launch) (G : zG) (M O : zM) (x0 : Int32) (x1 : Int32) (post : Int32 → Prop) (h : pX5_slot x0 x1 post) : Met l yX5_slot wsX5_slot ({ frames := 0, cells := 0, slots := 0, locals := 0 } : Room) (zPc G true M O [.int x0, .int x1]) (va_Qi (fun r M1 => M1 = M ∧ post r) (zB G true O) (zAA G)) 0 0 (zAA G) :=
  zmet_i (by decide) rfl (Nat.le_of_ble_eq_true rfl) (fun hF hSt hret H locs ls hH hl => wX5_slot hF hSt hret x0 x1 H locs ls hH hl h)
end
theorem znX2_addLine_X2 : ∀ w ∈ wsX20, w ∈ wsX2_addLine := fun _ h => List.mem_cons_of_mem _ (List.mem_append_right _ h)
theorem zdX2_addLine : yX2_addLine.cls ≠ "java/lang/invoke/MethodHandle" ∧ yX2_addLine.cls ≠ "java/lang/invoke/VarHandle" ∧ (parseMethodDescriptor yX2_addLine.desc).map (fun d => d.parameters.length) = some 2 := by decide +kernel
-- MixingRelays$Net addLine(II)I
section
variable {p : Program} {l : Launch} {e : Env} {s : State} {m : MethodId} {args : Array Value} {below : List Frame} {meth : Method} {c : Code} {Q : State → Prop} {G : zG} {O : zM}
def pX2_addLine_b93 (post : Int32 → zM → Prop) (x3 : Int32) (x4 : Int32) (M : zM) : Prop :=
  vp_in x4 30 ∧ post x3 (zsi (zsi M 13 x4.toNatClampNeg x3) 1 1 (((zsi M 13 x4.toNatClampNeg x3).1 1 1) + (1 : Int32)))
set_option maxHeartbeats 4000000 in
set_option maxRecDepth 100000 in
theorem wX2_addLine_b93 {post : Int32 → zM → Prop}  (hF : CallFix p m c cX2_addLine 5 s args wsX2_addLine RX2) (hSt : zSt G s) (hret : zRi p l e ({ frames := 1, cells := 0, slots := 0, locals := 21 } : Room) s m args below meth c Q cX2_addLine G true O post) (x3 : Int32) (x4 : Int32) (M : zM) (H : Heap) (locs : List Loc) (ls : Array Slot) (hH : zH G true s H locs M O) (hl : lv_has ls 5 [(0, .ref (G.1 1)), (3, .int x3), (4, .int x4)]) (h : pX2_addLine_b93 post x3 x4 M) : W p l e ({ frames := 1, cells := 0, slots := 0, locals := 21 } : Room) s m args below meth c H locs 0 0 Q (F0 m 93 ls []) := by
  obtain ⟨hx, hb, hml, hown, hts⟩ := id hF
  unfold pX2_addLine_b93 at h
  refine lv_aload_n hx hb dX2_addLine_93 rfl (lv_at hl 0 rfl) ?_
  refine zget (v := .ref (G.1 13)) hF hSt hH 1 (by decide) rfl (zE_1 _ _ _) (C := RX2) (T := TX2) (N := 16) rfl znX2_addLine_X2 13 (by decide) (List.mem_of_getElem? (i := 6) rfl) rfl dX2_addLine_94 ?_
  refine lv_iload hx hb dX2_addLine_97 (lv_at hl 2 rfl) ?_
  refine lv_iload_n hx hb dX2_addLine_99 rfl (lv_at hl 1 rfl) ?_
  obtain ⟨q100, h⟩ := h
  refine zast hF hSt hH 13 (by decide) rfl (zE_13 _) (x := x3) q100 dX2_addLine_100 (fun H locs hH => ?_)
  refine lv_aload_n hx hb dX2_addLine_101 rfl (lv_at hl 0 rfl) ?_
  refine lv_dup hx hb dX2_addLine_102 rfl ?_
  refine zget (v := .int ((zsi M 13 x4.toNatClampNeg x3).1 1 1)) hF hSt hH 1 (by decide) rfl (zE_1 _ _ _) (C := RX2) (T := TX2) (N := 16) rfl znX2_addLine_X2 1 (by decide) (List.mem_of_getElem? (i := 1) rfl) rfl dX2_addLine_103 ?_
  refine lv_iconst (v := (1 : Int32)) hx hb dX2_addLine_106 (by decide) ?_
  refine lv_iadd hx hb dX2_addLine_107 ?_
  refine zput hF hSt hH 1 (by decide) rfl (zE_1 _ _ _) (C := RX2) (T := TX2) (N := 16) rfl znX2_addLine_X2 tyX2 tyX2_ok nmX2 1 (by decide) (List.mem_of_getElem? (i := 1) rfl) rfl (by decide +kernel) (Nat.le_of_ble_eq_true rfl) (x := (((zsi M 13 x4.toNatClampNeg x3).1 1 1) + (1 : Int32))) rfl dX2_addLine_108 (fun H locs hH => ?_)
  refine lv_iload_n hx hb dX2_addLine_111 rfl (lv_at hl 1 rfl) ?_
  exact hret _ _ _ _ _ _ dX2_addLine_112 h hH
def pX2_addLine_b48 (post : Int32 → zM → Prop) (ag48 : Int32 → Int32 → Int32 → zM → Prop) (x1 : Int32) (x3 : Int32) (x4 : Int32) (M : zM) : Prop :=
  (x4 ≤ 0 → pX2_addLine_b93 post x3 x4 M) ∧ (¬ (x4 ≤ 0) → vp_in (x4 - (1 : Int32)) 30 ∧ vp_in (M.1 13 ((x4 - (1 : Int32))).toNatClampNeg) 30 ∧ ((M.1 6 ((M.1 13 ((x4 - (1 : Int32))).toNatClampNeg)).toNatClampNeg) ≤ x1 → pX2_addLine_b93 post x3 x4 M) ∧ (¬ ((M.1 6 ((M.1 13 ((x4 - (1 : Int32))).toNatClampNeg)).toNatClampNeg) ≤ x1) → vp_in (x4 - (1 : Int32)) 30 ∧ vp_in x4 30 ∧ ag48 x1 x3 (x4 + (-1 : Int32)) (zsi M 13 x4.toNatClampNeg (M.1 13 ((x4 - (1 : Int32))).toNatClampNeg))))
set_option maxHeartbeats 4000000 in
set_option maxRecDepth 100000 in
theorem wX2_addLine_b48 {post : Int32 → zM → Prop} {ag48 : Int32 → Int32 → Int32 → zM → Prop} (hF : CallFix p m c cX2_addLine 5 s args wsX2_addLine RX2) (hSt : zSt G s) (hret : zRi p l e ({ frames := 1, cells := 0, slots := 0, locals := 21 } : Room) s m args below meth c Q cX2_addLine G true O post) (hag48 : ∀ (x1 : Int32) (x3 : Int32) (x4 : Int32) (M : zM) (H : Heap) (locs : List Loc) (ls : Array Slot), ag48 x1 x3 x4 M → zH G true s H locs M O → lv_has ls 5 [(0, .ref (G.1 1)), (1, .int x1), (3, .int x3), (4, .int x4)] → W p l e ({ frames := 1, cells := 0, slots := 0, locals := 21 } : Room) s m args below meth c H locs 0 0 Q (F0 m 48 ls [])) (x1 : Int32) (x3 : Int32) (x4 : Int32) (M : zM) (H : Heap) (locs : List Loc) (ls : Array Slot) (hH : zH G true s H locs M O) (hl : lv_has ls 5 [(0, .ref (G.1 1)), (1, .int x1), (3, .int x3), (4, .int x4)]) (h : pX2_addLine_b48 post ag48 x1 x3 x4 M) : W p l e ({ frames := 1, cells := 0, slots := 0, locals := 21 } : Room) s m args below meth c H locs 0 0 Q (F0 m 48 ls []) := by
  obtain ⟨hx, hb, hml, hown, hts⟩ := id hF
  unfold pX2_addLine_b48 at h
  refine lv_iload hx hb dX2_addLine_48 (lv_at hl 3 rfl) ?_
  refine lv_if_le (tgt := 93) hx hb dX2_addLine_50 (by decide) (fun q50 => ?_) (fun q50 => ?_)
  · have h := h.1 q50
    exact wX2_addLine_b93 hF hSt hret x3 x4 M H locs ls hH (lv_sub hl [0, 2, 3] rfl) h
  · have h := h.2 q50
    refine lv_aload_n hx hb dX2_addLine_53 rfl (lv_at hl 0 rfl) ?_
    refine zget (v := .ref (G.1 6)) hF hSt hH 1 (by decide) rfl (zE_1 _ _ _) (C := RX2) (T := TX2) (N := 16) rfl znX2_addLine_X2 6 (by decide) (List.mem_of_getElem? (i := 2) rfl) rfl dX2_addLine_54 ?_
    refine lv_aload_n hx hb dX2_addLine_57 rfl (lv_at hl 0 rfl) ?_
    refine zget (v := .ref (G.1 13)) hF hSt hH 1 (by decide) rfl (zE_1 _ _ _) (C := RX2) (T := TX2) (N := 16) rfl znX2_addLine_X2 13 (by decide) (List.mem_of_getElem? (i := 6) rfl) rfl dX2_addLine_58 ?_
    refine lv_iload hx hb dX2_addLine_61 (lv_at hl 3 rfl) ?_
    refine lv_iconst (v := (1 : Int32)) hx hb dX2_addLine_63 (by decide) ?_
    refine lv_isub hx hb dX2_addLine_64 ?_
    obtain ⟨q65, h⟩ := h
    refine zald hF hSt hH 13 (by decide) rfl (zE_13 _ _ _) q65 dX2_addLine_65 ?_
    obtain ⟨q66, h⟩ := h
    refine zald hF hSt hH 6 (by decide) rfl (zE_6 _ _ _) q66 dX2_addLine_66 ?_
    refine lv_iload_n hx hb dX2_addLine_67 rfl (lv_at hl 1 rfl) ?_
    refine lv_icmp_le (tgt := 93) hx hb dX2_addLine_68 (by decide) (fun q68 => ?_) (fun q68 => ?_)
    · have h := h.1 q68
      exact wX2_addLine_b93 hF hSt hret x3 x4 M H locs ls hH (lv_sub hl [0, 2, 3] rfl) h
    · have h := h.2 q68
      refine lv_aload_n hx hb dX2_addLine_71 rfl (lv_at hl 0 rfl) ?_
      refine zget (v := .ref (G.1 13)) hF hSt hH 1 (by decide) rfl (zE_1 _ _ _) (C := RX2) (T := TX2) (N := 16) rfl znX2_addLine_X2 13 (by decide) (List.mem_of_getElem? (i := 6) rfl) rfl dX2_addLine_72 ?_
      refine lv_iload hx hb dX2_addLine_75 (lv_at hl 3 rfl) ?_
      refine lv_aload_n hx hb dX2_addLine_77 rfl (lv_at hl 0 rfl) ?_
      refine zget (v := .ref (G.1 13)) hF hSt hH 1 (by decide) rfl (zE_1 _ _ _) (C := RX2) (T := TX2) (N := 16) rfl znX2_addLine_X2 13 (by decide) (List.mem_of_getElem? (i := 6) rfl) rfl dX2_addLine_78 ?_
      refine lv_iload hx hb dX2_addLine_81 (lv_at hl 3 rfl) ?_
      refine lv_iconst (v := (1 : Int32)) hx hb dX2_addLine_83 (by decide) ?_
      refine lv_isub hx hb dX2_addLine_84 ?_
      obtain ⟨q85, h⟩ := h
      refine zald hF hSt hH 13 (by decide) rfl (zE_13 _ _ _) q85 dX2_addLine_85 ?_
      obtain ⟨q86, h⟩ := h
      refine zast hF hSt hH 13 (by decide) rfl (zE_13 _) (x := (M.1 13 ((x4 - (1 : Int32))).toNatClampNeg)) q86 dX2_addLine_86 (fun H locs hH => ?_)
      refine lv_iinc (v := (x4 + (-1 : Int32))) (lv' := [(4, .int (x4 + (-1 : Int32))), (0, .ref (G.1 1)), (1, .int x1), (3, .int x3)]) hx hb dX2_addLine_87 hl (k := 3) rfl rfl (by decide) rfl (fun ls hl => ?_)
      refine lv_goto (tgt := 48) hx hb dX2_addLine_90 (by decide) ?_
      exact hag48 x1 x3 (x4 + (-1 : Int32)) (zsi M 13 x4.toNatClampNeg (M.1 13 ((x4 - (1 : Int32))).toNatClampNeg)) H locs ls h hH (lv_sub hl [1, 2, 3, 0] rfl)
def pX2_addLine_L48 (post : Int32 → zM → Prop) (x1 : Int32) (x3 : Int32) (x4 : Int32) (M : zM) : Prop :=
  ∃ I : Nat → Int32 → Int32 → Int32 → zM → Prop, (∃ n, I n x1 x3 x4 M) ∧ ∀ n x1 x3 x4 M, I n x1 x3 x4 M → pX2_addLine_b48 post (fun x1 x3 x4 M => ∃ k, k < n ∧ I k x1 x3 x4 M) x1 x3 x4 M
set_option maxHeartbeats 4000000 in
theorem wX2_addLine_L48 {post : Int32 → zM → Prop}  (hF : CallFix p m c cX2_addLine 5 s args wsX2_addLine RX2) (hSt : zSt G s) (hret : zRi p l e ({ frames := 1, cells := 0, slots := 0, locals := 21 } : Room) s m args below meth c Q cX2_addLine G true O post) (x1 : Int32) (x3 : Int32) (x4 : Int32) (M : zM) (H : Heap) (locs : List Loc) (ls : Array Slot) (hH : zH G true s H locs M O) (hl : lv_has ls 5 [(0, .ref (G.1 1)), (1, .int x1), (3, .int x3), (4, .int x4)]) (h : pX2_addLine_L48 post x1 x3 x4 M) : W p l e ({ frames := 1, cells := 0, slots := 0, locals := 21 } : Room) s m args below meth c H locs 0 0 Q (F0 m 48 ls []) := by
  obtain ⟨I, ⟨n, hI⟩, hs⟩ := h
  have key : ∀ (n : Nat) (x1 : Int32) (x3 : Int32) (x4 : Int32) (M : zM) (H : Heap) (locs : List Loc) (ls : Array Slot), I n x1 x3 x4 M → zH G true s H locs M O → lv_has ls 5 [(0, .ref (G.1 1)), (1, .int x1), (3, .int x3), (4, .int x4)] → W p l e ({ frames := 1, cells := 0, slots := 0, locals := 21 } : Room) s m args below meth c H locs 0 0 Q (F0 m 48 ls []) := by
    intro n
    induction n using Nat.strongRecOn with
    | _ n ih =>
      intro x1 x3 x4 M H locs ls hI hH hl
      exact wX2_addLine_b48 hF hSt hret (fun x1 x3 x4 M H locs ls h hH hl => by obtain ⟨k, hk, hI⟩ := h; exact ih k hk x1 x3 x4 M H locs ls hI hH hl) x1 x3 x4 M H locs ls hH hl (hs n x1 x3 x4 M hI)
  exact key n x1 x3 x4 M H locs ls hI hH hl
def pX2_addLine (M : zM) (x1 : Int32) (x2 : Int32) (post : Int32 → zM → Prop) : Prop :=
  vp_in (M.1 1 1) 30 ∧ vp_in (M.1 1 1) 30 ∧ vp_in x2 12 ∧ pX5_slot x2 ((zsi (zsi M 6 ((M.1 1 1)).toNatClampNeg x1) 7 ((M.1 1 1)).toNatClampNeg x2).1 12 x2.toNatClampNeg) (fun r30 => vp_in r30 360 ∧ vp_in x2 12 ∧ vp_in x2 12 ∧ pX2_addLine_L48 post x1 (M.1 1 1) (M.1 1 1) (zsi (zsi (zsi (zsi M 6 ((M.1 1 1)).toNatClampNeg x1) 7 ((M.1 1 1)).toNatClampNeg x2) 11 r30.toNatClampNeg (M.1 1 1)) 12 x2.toNatClampNeg (((zsi (zsi (zsi M 6 ((M.1 1 1)).toNatClampNeg x1) 7 ((M.1 1 1)).toNatClampNeg x2) 11 r30.toNatClampNeg (M.1 1 1)).1 12 x2.toNatClampNeg) + (1 : Int32))))
set_option maxHeartbeats 4000000 in
set_option maxRecDepth 100000 in
theorem wX2_addLine {M : zM} {post : Int32 → zM → Prop} (hF : CallFix p m c cX2_addLine 5 s args wsX2_addLine RX2) (hSt : zSt G s) (hret : zRi p l e ({ frames := 1, cells := 0, slots := 0, locals := 21 } : Room) s m args below meth c Q cX2_addLine G true O post) (x1 : Int32) (x2 : Int32) (H : Heap) (locs : List Loc) (ls : Array Slot) (hH : zH G true s H locs M O) (hl : lv_has ls 5 [(0, .ref (G.1 1)), (1, .int x1), (2, .int x2)]) (h : pX2_addLine M x1 x2 post) : W p l e ({ frames := 1, cells := 0, slots := 0, locals := 21 } : Room) s m args below meth c H locs 0 0 Q (F0 m 0 ls []) := by
  obtain ⟨hx, hb, hml, hown, hts⟩ := id hF
  unfold pX2_addLine at h
  refine lv_aload_n hx hb dX2_addLine_0 rfl (lv_at hl 0 rfl) ?_
  refine zget (v := .int (M.1 1 1)) hF hSt hH 1 (by decide) rfl (zE_1 _ _ _) (C := RX2) (T := TX2) (N := 16) rfl znX2_addLine_X2 1 (by decide) (List.mem_of_getElem? (i := 1) rfl) rfl dX2_addLine_1 ?_
  refine lv_istore_n (lv' := [(3, .int (M.1 1 1)), (0, .ref (G.1 1)), (1, .int x1), (2, .int x2)]) hx hb dX2_addLine_4 rfl hl (by decide) rfl (fun ls hl => ?_)
  refine lv_aload_n hx hb dX2_addLine_5 rfl (lv_at hl 1 rfl) ?_
  refine zget (v := .ref (G.1 6)) hF hSt hH 1 (by decide) rfl (zE_1 _ _ _) (C := RX2) (T := TX2) (N := 16) rfl znX2_addLine_X2 6 (by decide) (List.mem_of_getElem? (i := 2) rfl) rfl dX2_addLine_6 ?_
  refine lv_iload_n hx hb dX2_addLine_9 rfl (lv_at hl 0 rfl) ?_
  refine lv_iload_n hx hb dX2_addLine_10 rfl (lv_at hl 2 rfl) ?_
  obtain ⟨q11, h⟩ := h
  refine zast hF hSt hH 6 (by decide) rfl (zE_6 _) (x := x1) q11 dX2_addLine_11 (fun H locs hH => ?_)
  refine lv_aload_n hx hb dX2_addLine_12 rfl (lv_at hl 1 rfl) ?_
  refine zget (v := .ref (G.1 7)) hF hSt hH 1 (by decide) rfl (zE_1 _ _ _) (C := RX2) (T := TX2) (N := 16) rfl znX2_addLine_X2 7 (by decide) (List.mem_of_getElem? (i := 3) rfl) rfl dX2_addLine_13 ?_
  refine lv_iload_n hx hb dX2_addLine_16 rfl (lv_at hl 0 rfl) ?_
  refine lv_iload_n hx hb dX2_addLine_17 rfl (lv_at hl 3 rfl) ?_
  obtain ⟨q18, h⟩ := h
  refine zast hF hSt hH 7 (by decide) rfl (zE_7 _) (x := x2) q18 dX2_addLine_18 (fun H locs hH => ?_)
  refine lv_aload_n hx hb dX2_addLine_19 rfl (lv_at hl 1 rfl) ?_
  refine zget (v := .ref (G.1 11)) hF hSt hH 1 (by decide) rfl (zE_1 _ _ _) (C := RX2) (T := TX2) (N := 16) rfl znX2_addLine_X2 11 (by decide) (List.mem_of_getElem? (i := 4) rfl) rfl dX2_addLine_20 ?_
  refine lv_iload_n hx hb dX2_addLine_23 rfl (lv_at hl 3 rfl) ?_
  refine lv_aload_n hx hb dX2_addLine_24 rfl (lv_at hl 1 rfl) ?_
  refine zget (v := .ref (G.1 12)) hF hSt hH 1 (by decide) rfl (zE_1 _ _ _) (C := RX2) (T := TX2) (N := 16) rfl znX2_addLine_X2 12 (by decide) (List.mem_of_getElem? (i := 5) rfl) rfl dX2_addLine_25 ?_
  refine lv_iload_n hx hb dX2_addLine_28 rfl (lv_at hl 3 rfl) ?_
  obtain ⟨q29, h⟩ := h
  refine zald hF hSt hH 12 (by decide) rfl (zE_12 _ _ _) q29 dX2_addLine_29 ?_
  refine zcalliP hH (va_runSN (As := [.int x2, .int ((zsi (zsi M 6 ((M.1 1 1)).toNatClampNeg x1) 7 ((M.1 1 1)).toNatClampNeg x2).1 12 x2.toNatClampNeg)]) (rest := [.ref (G.1 11)]) hF (kX5_slot l G (zsi (zsi M 6 ((M.1 1 1)).toNatClampNeg x1) 7 ((M.1 1 1)).toNatClampNeg x2) O x2 ((zsi (zsi M 6 ((M.1 1 1)).toNatClampNeg x1) 7 ((M.1 1 1)).toNatClampNeg x2).1 12 x2.toNatClampNeg) _ h) ⟨va_cnB 2 hts gX2_addLine_X5_slot_n62 rfl rfl rfl (hSt.2.2.1 _ zNest_X2_62) (hts _ (List.mem_of_getElem? (i := 8) rfl)) zdX5_slot ⟨Nat.le_of_ble_eq_true rfl, Nat.le_of_ble_eq_true rfl⟩, hts _ (List.mem_of_getElem? (i := 7) rfl), trivial⟩ (zpreS hSt hH [.int x2, .int ((zsi (zsi M 6 ((M.1 1 1)).toNatClampNeg x1) 7 ((M.1 1 1)).toNatClampNeg x2).1 12 x2.toNatClampNeg)]) rfl rfl hl.1 rfl (lv_room (Nat.le_of_ble_eq_true rfl)) dX2_addLine_30 ⟨Nat.zero_le _, Nat.zero_le _⟩) (fun r30 H locs h hH => ?_)
  refine lv_iload_n hx hb dX2_addLine_33 rfl (lv_at hl 0 rfl) ?_
  obtain ⟨q34, h⟩ := h
  refine zast hF hSt hH 11 (by decide) rfl (zE_11 _) (x := (M.1 1 1)) q34 dX2_addLine_34 (fun H locs hH => ?_)
  refine lv_aload_n hx hb dX2_addLine_35 rfl (lv_at hl 1 rfl) ?_
  refine zget (v := .ref (G.1 12)) hF hSt hH 1 (by decide) rfl (zE_1 _ _ _) (C := RX2) (T := TX2) (N := 16) rfl znX2_addLine_X2 12 (by decide) (List.mem_of_getElem? (i := 5) rfl) rfl dX2_addLine_36 ?_
  refine lv_iload_n hx hb dX2_addLine_39 rfl (lv_at hl 3 rfl) ?_
  refine lv_dup2_11 hx hb dX2_addLine_40 rfl rfl ?_
  obtain ⟨q41, h⟩ := h
  refine zald hF hSt hH 12 (by decide) rfl (zE_12 _ _ _) q41 dX2_addLine_41 ?_
  refine lv_iconst (v := (1 : Int32)) hx hb dX2_addLine_42 (by decide) ?_
  refine lv_iadd hx hb dX2_addLine_43 ?_
  obtain ⟨q44, h⟩ := h
  refine zast hF hSt hH 12 (by decide) rfl (zE_12 _) (x := (((zsi (zsi (zsi M 6 ((M.1 1 1)).toNatClampNeg x1) 7 ((M.1 1 1)).toNatClampNeg x2) 11 r30.toNatClampNeg (M.1 1 1)).1 12 x2.toNatClampNeg) + (1 : Int32))) q44 dX2_addLine_44 (fun H locs hH => ?_)
  refine lv_iload_n hx hb dX2_addLine_45 rfl (lv_at hl 0 rfl) ?_
  refine lv_istore (lv' := [(4, .int (M.1 1 1)), (3, .int (M.1 1 1)), (0, .ref (G.1 1)), (1, .int x1), (2, .int x2)]) hx hb dX2_addLine_46 hl (by decide) rfl (fun ls hl => ?_)
  exact wX2_addLine_L48 hF hSt hret x1 (M.1 1 1) (M.1 1 1) (zsi (zsi (zsi (zsi M 6 ((M.1 1 1)).toNatClampNeg x1) 7 ((M.1 1 1)).toNatClampNeg x2) 11 r30.toNatClampNeg (M.1 1 1)) 12 x2.toNatClampNeg (((zsi (zsi (zsi M 6 ((M.1 1 1)).toNatClampNeg x1) 7 ((M.1 1 1)).toNatClampNeg x2) 11 r30.toNatClampNeg (M.1 1 1)).1 12 x2.toNatClampNeg) + (1 : Int32))) H locs ls hH (lv_sub hl [2, 3, 1, 0] rfl) h
set_option maxRecDepth 100000 in
theorem kX2_addLine (l : Launch) (G : zG) (M O : zM) (x1 : Int32) (x2 : Int32) (post : Int32 → zM → Prop) (h : pX2_addLine M x1 x2 post) : Met l yX2_addLine wsX2_addLine ({ frames := 1, cells := 0, slots := 0, locals := 21 } : Room) (zPc G true M O [.ref (G.1 1), .int x1, .int x2]) (va_Qi post (zB G true O) (zAA G)) 0 0 (zAA G) :=
  zmet_i (by decide) rfl (Nat.le_of_ble_eq_true rfl) (fun hF hSt hret H locs ls hH hl => wX2_addLine hF hSt hret x1 x2 H locs ls hH hl h)
end
theorem znX5_line_X5 : ∀ w ∈ wsX50, w ∈ wsX5_line := fun _ h => List.mem_cons_of_mem _ (List.mem_append_left _ (List.mem_append_right _ h))
theorem znX5_line_X2 : ∀ w ∈ wsX20, w ∈ wsX5_line := fun _ h => List.mem_cons_of_mem _ (List.mem_append_right _ h)
theorem zdX5_line : yX5_line.cls ≠ "java/lang/invoke/MethodHandle" ∧ yX5_line.cls ≠ "java/lang/invoke/VarHandle" ∧ (parseMethodDescriptor yX5_line.desc).map (fun d => d.parameters.length) = some 2 := by decide +kernel
-- MixingRelays line(II)I
section
variable {p : Program} {l : Launch} {e : Env} {s : State} {m : MethodId} {args : Array Value} {below : List Frame} {meth : Method} {c : Code} {Q : State → Prop} {G : zG} {O : zM}
def pX5_line_b22 (post : Int32 → zM → Prop) (M : zM) : Prop :=
  post (-1 : Int32) M
set_option maxHeartbeats 4000000 in
set_option maxRecDepth 100000 in
theorem wX5_line_b22 {post : Int32 → zM → Prop}  (hF : CallFix p m c cX5_line 3 s args wsX5_line RX5) (hSt : zSt G s) (hret : zRi p l e ({ frames := 2, cells := 0, slots := 0, locals := 45 } : Room) s m args below meth c Q cX5_line G true O post) (M : zM) (H : Heap) (locs : List Loc) (ls : Array Slot) (hH : zH G true s H locs M O) (hl : lv_has ls 3 []) (h : pX5_line_b22 post M) : W p l e ({ frames := 2, cells := 0, slots := 0, locals := 45 } : Room) s m args below meth c H locs 0 0 Q (F0 m 22 ls []) := by
  obtain ⟨hx, hb, hml, hown, hts⟩ := id hF
  unfold pX5_line_b22 at h
  refine lv_iconst (v := (-1 : Int32)) hx hb dX5_line_22 (by decide) ?_
  exact hret _ _ _ _ _ _ dX5_line_23 h hH
def pX5_line (M : zM) (x1 : Int32) (x2 : Int32) (post : Int32 → zM → Prop) : Prop :=
  pX2_isRelay M x1 (fun r5 => (r5 = 0 → pX5_line_b22 post M) ∧ (¬ (r5 = 0) → pX2_isRelay M x2 (fun r16 => (¬ (r16 = 0) → (x1 < x2 → ((M.1 1 1) < (30 : Int32) → pX2_addLine M x1 x2 (fun r53 M53 => post r53 M53)) ∧ (¬ ((M.1 1 1) < (30 : Int32)) → post (-4 : Int32) M)) ∧ (¬ (x1 < x2) → post (-2 : Int32) M)) ∧ (r16 = 0 → pX5_line_b22 post M))))
set_option maxHeartbeats 4000000 in
set_option maxRecDepth 100000 in
theorem wX5_line {M : zM} {post : Int32 → zM → Prop} (hF : CallFix p m c cX5_line 3 s args wsX5_line RX5) (hSt : zSt G s) (hret : zRi p l e ({ frames := 2, cells := 0, slots := 0, locals := 45 } : Room) s m args below meth c Q cX5_line G true O post) (x1 : Int32) (x2 : Int32) (H : Heap) (locs : List Loc) (ls : Array Slot) (hH : zH G true s H locs M O) (hl : lv_has ls 3 [(0, .ref (G.1 0)), (1, .int x1), (2, .int x2)]) (h : pX5_line M x1 x2 post) : W p l e ({ frames := 2, cells := 0, slots := 0, locals := 45 } : Room) s m args below meth c H locs 0 0 Q (F0 m 0 ls []) := by
  obtain ⟨hx, hb, hml, hown, hts⟩ := id hF
  unfold pX5_line at h
  refine lv_aload_n hx hb dX5_line_0 rfl (lv_at hl 0 rfl) ?_
  refine zget (v := .ref (G.1 1)) hF hSt hH 0 (by decide) rfl (zE_0 _ _ _) (C := RX5) (T := TX5) (N := 5) rfl znX5_line_X5 0 (by decide) (List.mem_of_getElem? (i := 1) rfl) rfl dX5_line_1 ?_
  refine lv_iload_n hx hb dX5_line_4 rfl (lv_at hl 1 rfl) ?_
  refine zcalliP hH (va_runV (As := [.int x1]) (rest := []) hF (kX2_isRelay l G M O x1 _ h) (cwV 1 hts gX5_line_X2_isRelay rfl rfl rfl ⟨rfl, zdX2_isRelay⟩ ⟨Nat.le_of_ble_eq_true rfl, Nat.le_of_ble_eq_true rfl⟩) (zpreV hSt hH 1 (by decide) rfl (zE_1 _ _ _) (q := (RX2, TX2, 16)) rfl [.int x1]) rfl rfl hl.1 rfl (lv_room (Nat.le_of_ble_eq_true rfl)) dX5_line_5 ⟨Nat.zero_le _, Nat.zero_le _⟩) (fun r5 H locs h hH => ?_)
  refine lv_if_eq (tgt := 22) hx hb dX5_line_8 (by decide) (fun q8 => ?_) (fun q8 => ?_)
  · have h := h.1 q8
    exact wX5_line_b22 hF hSt hret M H locs ls hH (lv_sub hl [] rfl) h
  · have h := h.2 q8
    refine lv_aload_n hx hb dX5_line_11 rfl (lv_at hl 0 rfl) ?_
    refine zget (v := .ref (G.1 1)) hF hSt hH 0 (by decide) rfl (zE_0 _ _ _) (C := RX5) (T := TX5) (N := 5) rfl znX5_line_X5 0 (by decide) (List.mem_of_getElem? (i := 1) rfl) rfl dX5_line_12 ?_
    refine lv_iload_n hx hb dX5_line_15 rfl (lv_at hl 2 rfl) ?_
    refine zcalliP hH (va_runV (As := [.int x2]) (rest := []) hF (kX2_isRelay l G M O x2 _ h) (cwV 1 hts gX5_line_X2_isRelay rfl rfl rfl ⟨rfl, zdX2_isRelay⟩ ⟨Nat.le_of_ble_eq_true rfl, Nat.le_of_ble_eq_true rfl⟩) (zpreV hSt hH 1 (by decide) rfl (zE_1 _ _ _) (q := (RX2, TX2, 16)) rfl [.int x2]) rfl rfl hl.1 rfl (lv_room (Nat.le_of_ble_eq_true rfl)) dX5_line_16 ⟨Nat.zero_le _, Nat.zero_le _⟩) (fun r16 H locs h hH => ?_)
    refine lv_if_ne (tgt := 24) hx hb dX5_line_19 (by decide) (fun q19 => ?_) (fun q19 => ?_)
    · have h := h.1 q19
      refine lv_iload_n hx hb dX5_line_24 rfl (lv_at hl 2 rfl) ?_
      refine lv_iload_n hx hb dX5_line_25 rfl (lv_at hl 1 rfl) ?_
      refine lv_icmp_gt (tgt := 32) hx hb dX5_line_26 (by decide) (fun q26 => ?_) (fun q26 => ?_)
      · have h := h.1 q26
        refine lv_aload_n hx hb dX5_line_32 rfl (lv_at hl 0 rfl) ?_
        refine zget (v := .ref (G.1 1)) hF hSt hH 0 (by decide) rfl (zE_0 _ _ _) (C := RX5) (T := TX5) (N := 5) rfl znX5_line_X5 0 (by decide) (List.mem_of_getElem? (i := 1) rfl) rfl dX5_line_33 ?_
        refine zget (v := .int (M.1 1 1)) hF hSt hH 1 (by decide) rfl (zE_1 _ _ _) (C := RX2) (T := TX2) (N := 16) rfl znX5_line_X2 1 (by decide) (List.mem_of_getElem? (i := 2) rfl) rfl dX5_line_36 ?_
        refine lv_bipush (v := (30 : Int32)) hx hb dX5_line_39 (by decide) ?_
        refine lv_icmp_lt (tgt := 47) hx hb dX5_line_41 (by decide) (fun q41 => ?_) (fun q41 => ?_)
        · have h := h.1 q41
          refine lv_aload_n hx hb dX5_line_47 rfl (lv_at hl 0 rfl) ?_
          refine zget (v := .ref (G.1 1)) hF hSt hH 0 (by decide) rfl (zE_0 _ _ _) (C := RX5) (T := TX5) (N := 5) rfl znX5_line_X5 0 (by decide) (List.mem_of_getElem? (i := 1) rfl) rfl dX5_line_48 ?_
          refine lv_iload_n hx hb dX5_line_51 rfl (lv_at hl 1 rfl) ?_
          refine lv_iload_n hx hb dX5_line_52 rfl (lv_at hl 2 rfl) ?_
          refine zcalli hH (va_runV (As := [.int x1, .int x2]) (rest := []) hF (kX2_addLine l G M O x1 x2 _ h) (cwV 2 hts gX5_line_X2_addLine rfl rfl rfl ⟨rfl, zdX2_addLine⟩ ⟨Nat.le_of_ble_eq_true rfl, Nat.le_of_ble_eq_true rfl⟩) (zpreV hSt hH 1 (by decide) rfl (zE_1 _ _ _) (q := (RX2, TX2, 16)) rfl [.int x1, .int x2]) rfl rfl hl.1 rfl (lv_room (Nat.le_of_ble_eq_true rfl)) dX5_line_53 ⟨Nat.zero_le _, Nat.zero_le _⟩) (fun r53 M53 H locs h hH => ?_)
          exact hret _ _ _ _ _ _ dX5_line_56 h hH
        · have h := h.2 q41
          refine lv_bipush (v := (-4 : Int32)) hx hb dX5_line_44 (by decide) ?_
          exact hret _ _ _ _ _ _ dX5_line_46 h hH
      · have h := h.2 q26
        refine lv_bipush (v := (-2 : Int32)) hx hb dX5_line_29 (by decide) ?_
        exact hret _ _ _ _ _ _ dX5_line_31 h hH
    · have h := h.2 q19
      exact wX5_line_b22 hF hSt hret M H locs ls hH (lv_sub hl [] rfl) h
set_option maxRecDepth 100000 in
theorem kX5_line (l : Launch) (G : zG) (M O : zM) (x1 : Int32) (x2 : Int32) (post : Int32 → zM → Prop) (h : pX5_line M x1 x2 post) : Met l yX5_line wsX5_line ({ frames := 2, cells := 0, slots := 0, locals := 45 } : Room) (zPc G true M O [.ref (G.1 0), .int x1, .int x2]) (va_Qi post (zB G true O) (zAA G)) 0 0 (zAA G) :=
  zmet_i (by decide) rfl (Nat.le_of_ble_eq_true rfl) (fun hF hSt hret H locs ls hH hl => wX5_line hF hSt hret x1 x2 H locs ls hH hl h)
end
theorem zdJ7_fill_d0a16 : yJ7_fill_d0a16.cls ≠ "java/lang/invoke/MethodHandle" ∧ yJ7_fill_d0a16.cls ≠ "java/lang/invoke/VarHandle" ∧ (parseMethodDescriptor yJ7_fill_d0a16.desc).map (fun d => d.parameters.length) = some 2 := by decide +kernel
-- java/util/Arrays fill([JJ)V
section
variable {p : Program} {l : Launch} {e : Env} {s : State} {m : MethodId} {args : Array Value} {below : List Frame} {meth : Method} {c : Code} {Q : State → Prop} {G : zG} {O : zM}
def pJ7_fill_d0a16_9_b6 (post : zM → Prop) (ag6 : Int64 → Int32 → Int32 → zM → Prop) (x1 : Int64) (x3 : Int32) (x4 : Int32) (M : zM) : Prop :=
  (x4 ≤ x3 → post M) ∧ (¬ (x4 ≤ x3) → vp_in x3 4 ∧ ag6 x1 (x3 + (1 : Int32)) x4 (zsj M 9 x3.toNatClampNeg x1))
set_option maxHeartbeats 4000000 in
set_option maxRecDepth 100000 in
theorem wJ7_fill_d0a16_9_b6 {post : zM → Prop} {ag6 : Int64 → Int32 → Int32 → zM → Prop} (hF : CallFix p m c cJ7_fill_d0a16 5 s args wsJ7_fill_d0a16 RJ7) (hSt : zSt G s) (hret : zRv p l e ({ frames := 0, cells := 0, slots := 0, locals := 0 } : Room) s m args below meth c Q cJ7_fill_d0a16 G true O post) (hag6 : ∀ (x1 : Int64) (x3 : Int32) (x4 : Int32) (M : zM) (H : Heap) (locs : List Loc) (ls : Array Slot), ag6 x1 x3 x4 M → zH G true s H locs M O → lv_has ls 5 [(0, .ref (G.1 9)), (1, .long x1), (3, .int x3), (4, .int x4)] → W p l e ({ frames := 0, cells := 0, slots := 0, locals := 0 } : Room) s m args below meth c H locs 0 0 Q (F0 m 6 ls [])) (x1 : Int64) (x3 : Int32) (x4 : Int32) (M : zM) (H : Heap) (locs : List Loc) (ls : Array Slot) (hH : zH G true s H locs M O) (hl : lv_has ls 5 [(0, .ref (G.1 9)), (1, .long x1), (3, .int x3), (4, .int x4)]) (h : pJ7_fill_d0a16_9_b6 post ag6 x1 x3 x4 M) : W p l e ({ frames := 0, cells := 0, slots := 0, locals := 0 } : Room) s m args below meth c H locs 0 0 Q (F0 m 6 ls []) := by
  obtain ⟨hx, hb, hml, hown, hts⟩ := id hF
  unfold pJ7_fill_d0a16_9_b6 at h
  refine lv_iload_n hx hb dJ7_fill_d0a16_6 rfl (lv_at hl 2 rfl) ?_
  refine lv_iload hx hb dJ7_fill_d0a16_7 (lv_at hl 3 rfl) ?_
  refine lv_icmp_ge (tgt := 22) hx hb dJ7_fill_d0a16_9 (by decide) (fun q9 => ?_) (fun q9 => ?_)
  · have h := h.1 q9
    exact hret _ _ _ _ _ dJ7_fill_d0a16_22 h hH
  · have h := h.2 q9
    refine lv_aload_n hx hb dJ7_fill_d0a16_12 rfl (lv_at hl 0 rfl) ?_
    refine lv_iload_n hx hb dJ7_fill_d0a16_13 rfl (lv_at hl 2 rfl) ?_
    refine lv_lload_n hx hb dJ7_fill_d0a16_14 rfl (lv_at hl 1 rfl) ?_
    obtain ⟨q15, h⟩ := h
    refine zlast hF hSt hH 9 (by decide) rfl (zE_9 _) (x := x1) q15 dJ7_fill_d0a16_15 (fun H locs hH => ?_)
    refine lv_iinc (v := (x3 + (1 : Int32))) (lv' := [(3, .int (x3 + (1 : Int32))), (0, .ref (G.1 9)), (1, .long x1), (4, .int x4)]) hx hb dJ7_fill_d0a16_16 hl (k := 2) rfl rfl (by decide) rfl (fun ls hl => ?_)
    refine lv_goto (tgt := 6) hx hb dJ7_fill_d0a16_19 (by decide) ?_
    exact hag6 x1 (x3 + (1 : Int32)) x4 (zsj M 9 x3.toNatClampNeg x1) H locs ls h hH (lv_sub hl [1, 2, 0, 3] rfl)
def pJ7_fill_d0a16_9_L6 (post : zM → Prop) (x1 : Int64) (x3 : Int32) (x4 : Int32) (M : zM) : Prop :=
  ∃ I : Nat → Int64 → Int32 → Int32 → zM → Prop, (∃ n, I n x1 x3 x4 M) ∧ ∀ n x1 x3 x4 M, I n x1 x3 x4 M → pJ7_fill_d0a16_9_b6 post (fun x1 x3 x4 M => ∃ k, k < n ∧ I k x1 x3 x4 M) x1 x3 x4 M
set_option maxHeartbeats 4000000 in
theorem wJ7_fill_d0a16_9_L6 {post : zM → Prop}  (hF : CallFix p m c cJ7_fill_d0a16 5 s args wsJ7_fill_d0a16 RJ7) (hSt : zSt G s) (hret : zRv p l e ({ frames := 0, cells := 0, slots := 0, locals := 0 } : Room) s m args below meth c Q cJ7_fill_d0a16 G true O post) (x1 : Int64) (x3 : Int32) (x4 : Int32) (M : zM) (H : Heap) (locs : List Loc) (ls : Array Slot) (hH : zH G true s H locs M O) (hl : lv_has ls 5 [(0, .ref (G.1 9)), (1, .long x1), (3, .int x3), (4, .int x4)]) (h : pJ7_fill_d0a16_9_L6 post x1 x3 x4 M) : W p l e ({ frames := 0, cells := 0, slots := 0, locals := 0 } : Room) s m args below meth c H locs 0 0 Q (F0 m 6 ls []) := by
  obtain ⟨I, ⟨n, hI⟩, hs⟩ := h
  have key : ∀ (n : Nat) (x1 : Int64) (x3 : Int32) (x4 : Int32) (M : zM) (H : Heap) (locs : List Loc) (ls : Array Slot), I n x1 x3 x4 M → zH G true s H locs M O → lv_has ls 5 [(0, .ref (G.1 9)), (1, .long x1), (3, .int x3), (4, .int x4)] → W p l e ({ frames := 0, cells := 0, slots := 0, locals := 0 } : Room) s m args below meth c H locs 0 0 Q (F0 m 6 ls []) := by
    intro n
    induction n using Nat.strongRecOn with
    | _ n ih =>
      intro x1 x3 x4 M H locs ls hI hH hl
      exact wJ7_fill_d0a16_9_b6 hF hSt hret (fun x1 x3 x4 M H locs ls h hH hl => by obtain ⟨k, hk, hI⟩ := h; exact ih k hk x1 x3 x4 M H locs ls hI hH hl) x1 x3 x4 M H locs ls hH hl (hs n x1 x3 x4 M hI)
  exact key n x1 x3 x4 M H locs ls hI hH hl
def pJ7_fill_d0a16_9 (M : zM) (x1 : Int64) (post : zM → Prop) : Prop :=
  pJ7_fill_d0a16_9_L6 post x1 (0 : Int32) (4 : Int32) M
set_option maxHeartbeats 4000000 in
set_option maxRecDepth 100000 in
theorem wJ7_fill_d0a16_9 {M : zM} {post : zM → Prop} (hF : CallFix p m c cJ7_fill_d0a16 5 s args wsJ7_fill_d0a16 RJ7) (hSt : zSt G s) (hret : zRv p l e ({ frames := 0, cells := 0, slots := 0, locals := 0 } : Room) s m args below meth c Q cJ7_fill_d0a16 G true O post) (x1 : Int64) (H : Heap) (locs : List Loc) (ls : Array Slot) (hH : zH G true s H locs M O) (hl : lv_has ls 5 [(0, .ref (G.1 9)), (1, .long x1)]) (h : pJ7_fill_d0a16_9 M x1 post) : W p l e ({ frames := 0, cells := 0, slots := 0, locals := 0 } : Room) s m args below meth c H locs 0 0 Q (F0 m 0 ls []) := by
  obtain ⟨hx, hb, hml, hown, hts⟩ := id hF
  unfold pJ7_fill_d0a16_9 at h
  refine lv_iconst (v := (0 : Int32)) hx hb dJ7_fill_d0a16_0 (by decide) ?_
  refine lv_istore_n (lv' := [(3, .int (0 : Int32)), (0, .ref (G.1 9)), (1, .long x1)]) hx hb dJ7_fill_d0a16_1 rfl hl (by decide) rfl (fun ls hl => ?_)
  refine lv_aload_n hx hb dJ7_fill_d0a16_2 rfl (lv_at hl 1 rfl) ?_
  refine zalenJ hF hSt hH 9 (by decide) rfl (zE_9 _ _ _) (v := (4 : Int32)) (by decide) dJ7_fill_d0a16_3 ?_
  refine lv_istore (lv' := [(4, .int (4 : Int32)), (3, .int (0 : Int32)), (0, .ref (G.1 9)), (1, .long x1)]) hx hb dJ7_fill_d0a16_4 hl (by decide) rfl (fun ls hl => ?_)
  exact wJ7_fill_d0a16_9_L6 hF hSt hret x1 (0 : Int32) (4 : Int32) M H locs ls hH (lv_sub hl [2, 3, 1, 0] rfl) h
set_option maxRecDepth 100000 in
theorem kJ7_fill_d0a16_9 (l : Launch) (G : zG) (M O : zM) (x1 : Int64) (post : zM → Prop) (h : pJ7_fill_d0a16_9 M x1 post) : Met l yJ7_fill_d0a16 wsJ7_fill_d0a16 ({ frames := 0, cells := 0, slots := 0, locals := 0 } : Room) (zPc G true M O [.ref (G.1 9), .long x1]) (va_Qv post (zB G true O) (zAA G)) 0 0 (zAA G) :=
  zmet_v (by decide) rfl (Nat.le_of_ble_eq_true rfl) (fun hF hSt hret H locs ls hH hl => wJ7_fill_d0a16_9 hF hSt hret x1 H locs ls hH hl h)
end
theorem znX5_pieces_X5 : ∀ w ∈ wsX50, w ∈ wsX5_pieces := fun _ h => List.mem_cons_of_mem _ (List.mem_append_left _ (List.mem_append_right _ h))
theorem znX5_pieces_X2 : ∀ w ∈ wsX20, w ∈ wsX5_pieces := fun _ h => List.mem_cons_of_mem _ (List.mem_append_right _ h)
theorem zdX5_pieces : yX5_pieces.cls ≠ "java/lang/invoke/MethodHandle" ∧ yX5_pieces.cls ≠ "java/lang/invoke/VarHandle" ∧ (parseMethodDescriptor yX5_pieces.desc).map (fun d => d.parameters.length) = some 1 := by decide +kernel
-- MixingRelays pieces(I)I
section
variable {p : Program} {l : Launch} {e : Env} {s : State} {m : MethodId} {args : Array Value} {below : List Frame} {meth : Method} {c : Code} {Q : State → Prop} {G : zG} {O : zM}
def pX5_pieces_b10 (post : Int32 → zM → Prop) (M : zM) : Prop :=
  post (-2 : Int32) M
set_option maxHeartbeats 4000000 in
set_option maxRecDepth 100000 in
theorem wX5_pieces_b10 {post : Int32 → zM → Prop}  (hF : CallFix p m c cX5_pieces 3 s args wsX5_pieces RX5) (hSt : zSt G s) (hret : zRi p l e ({ frames := 1, cells := 0, slots := 0, locals := 24 } : Room) s m args below meth c Q cX5_pieces G true O post) (M : zM) (H : Heap) (locs : List Loc) (ls : Array Slot) (hH : zH G true s H locs M O) (hl : lv_has ls 3 []) (h : pX5_pieces_b10 post M) : W p l e ({ frames := 1, cells := 0, slots := 0, locals := 24 } : Room) s m args below meth c H locs 0 0 Q (F0 m 10 ls []) := by
  obtain ⟨hx, hb, hml, hown, hts⟩ := id hF
  unfold pX5_pieces_b10 at h
  refine lv_bipush (v := (-2 : Int32)) hx hb dX5_pieces_10 (by decide) ?_
  exact hret _ _ _ _ _ _ dX5_pieces_12 h hH
def pX5_pieces (M : zM) (x1 : Int32) (post : Int32 → zM → Prop) : Prop :=
  (x1 < (1 : Int32) → pX5_pieces_b10 post M) ∧ (¬ (x1 < (1 : Int32)) → (x1 ≤ (4 : Int32) → ((M.1 1 1) ≤ 0 → pJ7_fill_d0a16_9 (zsi M 1 2 x1) (0 : Int64) (fun M50 => post (M.1 1 2) M50)) ∧ (¬ ((M.1 1 1) ≤ 0) → post (-3 : Int32) M)) ∧ (¬ (x1 ≤ (4 : Int32)) → pX5_pieces_b10 post M))
set_option maxHeartbeats 4000000 in
set_option maxRecDepth 100000 in
theorem wX5_pieces {M : zM} {post : Int32 → zM → Prop} (hF : CallFix p m c cX5_pieces 3 s args wsX5_pieces RX5) (hSt : zSt G s) (hret : zRi p l e ({ frames := 1, cells := 0, slots := 0, locals := 24 } : Room) s m args below meth c Q cX5_pieces G true O post) (x1 : Int32) (H : Heap) (locs : List Loc) (ls : Array Slot) (hH : zH G true s H locs M O) (hl : lv_has ls 3 [(0, .ref (G.1 0)), (1, .int x1)]) (h : pX5_pieces M x1 post) : W p l e ({ frames := 1, cells := 0, slots := 0, locals := 24 } : Room) s m args below meth c H locs 0 0 Q (F0 m 0 ls []) := by
  obtain ⟨hx, hb, hml, hown, hts⟩ := id hF
  unfold pX5_pieces at h
  refine lv_iload_n hx hb dX5_pieces_0 rfl (lv_at hl 1 rfl) ?_
  refine lv_iconst (v := (1 : Int32)) hx hb dX5_pieces_1 (by decide) ?_
  refine lv_icmp_lt (tgt := 10) hx hb dX5_pieces_2 (by decide) (fun q2 => ?_) (fun q2 => ?_)
  · have h := h.1 q2
    exact wX5_pieces_b10 hF hSt hret M H locs ls hH (lv_sub hl [] rfl) h
  · have h := h.2 q2
    refine lv_iload_n hx hb dX5_pieces_5 rfl (lv_at hl 1 rfl) ?_
    refine lv_iconst (v := (4 : Int32)) hx hb dX5_pieces_6 (by decide) ?_
    refine lv_icmp_le (tgt := 13) hx hb dX5_pieces_7 (by decide) (fun q7 => ?_) (fun q7 => ?_)
    · have h := h.1 q7
      refine lv_aload_n hx hb dX5_pieces_13 rfl (lv_at hl 0 rfl) ?_
      refine zget (v := .ref (G.1 1)) hF hSt hH 0 (by decide) rfl (zE_0 _ _ _) (C := RX5) (T := TX5) (N := 5) rfl znX5_pieces_X5 0 (by decide) (List.mem_of_getElem? (i := 1) rfl) rfl dX5_pieces_14 ?_
      refine zget (v := .int (M.1 1 1)) hF hSt hH 1 (by decide) rfl (zE_1 _ _ _) (C := RX2) (T := TX2) (N := 16) rfl znX5_pieces_X2 1 (by decide) (List.mem_of_getElem? (i := 2) rfl) rfl dX5_pieces_17 ?_
      refine lv_if_le (tgt := 26) hx hb dX5_pieces_20 (by decide) (fun q20 => ?_) (fun q20 => ?_)
      · have h := h.1 q20
        refine lv_aload_n hx hb dX5_pieces_26 rfl (lv_at hl 0 rfl) ?_
        refine zget (v := .ref (G.1 1)) hF hSt hH 0 (by decide) rfl (zE_0 _ _ _) (C := RX5) (T := TX5) (N := 5) rfl znX5_pieces_X5 0 (by decide) (List.mem_of_getElem? (i := 1) rfl) rfl dX5_pieces_27 ?_
        refine zget (v := .int (M.1 1 2)) hF hSt hH 1 (by decide) rfl (zE_1 _ _ _) (C := RX2) (T := TX2) (N := 16) rfl znX5_pieces_X2 2 (by decide) (List.mem_of_getElem? (i := 3) rfl) rfl dX5_pieces_30 ?_
        refine lv_istore_n (lv' := [(2, .int (M.1 1 2)), (0, .ref (G.1 0)), (1, .int x1)]) hx hb dX5_pieces_33 rfl hl (by decide) rfl (fun ls hl => ?_)
        refine lv_aload_n hx hb dX5_pieces_34 rfl (lv_at hl 1 rfl) ?_
        refine zget (v := .ref (G.1 1)) hF hSt hH 0 (by decide) rfl (zE_0 _ _ _) (C := RX5) (T := TX5) (N := 5) rfl znX5_pieces_X5 0 (by decide) (List.mem_of_getElem? (i := 1) rfl) rfl dX5_pieces_35 ?_
        refine lv_iload_n hx hb dX5_pieces_38 rfl (lv_at hl 2 rfl) ?_
        refine zput hF hSt hH 1 (by decide) rfl (zE_1 _ _ _) (C := RX2) (T := TX2) (N := 16) rfl znX5_pieces_X2 tyX2 tyX2_ok nmX2 2 (by decide) (List.mem_of_getElem? (i := 3) rfl) rfl (by decide +kernel) (Nat.le_of_ble_eq_true rfl) (x := x1) rfl dX5_pieces_39 (fun H locs hH => ?_)
        refine lv_aload_n hx hb dX5_pieces_42 rfl (lv_at hl 1 rfl) ?_
        refine zget (v := .ref (G.1 1)) hF hSt hH 0 (by decide) rfl (zE_0 _ _ _) (C := RX5) (T := TX5) (N := 5) rfl znX5_pieces_X5 0 (by decide) (List.mem_of_getElem? (i := 1) rfl) rfl dX5_pieces_43 ?_
        refine zget (v := .ref (G.1 9)) hF hSt hH 1 (by decide) rfl (zE_1 _ _ _) (C := RX2) (T := TX2) (N := 16) rfl znX5_pieces_X2 9 (by decide) (List.mem_of_getElem? (i := 4) rfl) rfl dX5_pieces_46 ?_
        refine lv_lconst (v := (0 : Int64)) hx hb dX5_pieces_49 (by decide) ?_
        refine zcallv hH (va_runS (As := [.ref (G.1 9), .long (0 : Int64)]) (rest := []) hF (kJ7_fill_d0a16_9 l G (zsi M 1 2 x1) O (0 : Int64) _ h) (va_cwS 2 hts gX5_pieces_J7_fill_d0a16 rfl rfl rfl zdJ7_fill_d0a16 ⟨Nat.le_of_ble_eq_true rfl, Nat.le_of_ble_eq_true rfl⟩) (zpreS hSt hH [.ref (G.1 9), .long (0 : Int64)]) rfl rfl hl.1 rfl (lv_room (Nat.le_of_ble_eq_true rfl)) dX5_pieces_50 ⟨Nat.zero_le _, Nat.zero_le _⟩) (fun M50 H locs h hH => ?_)
        refine lv_iload_n hx hb dX5_pieces_53 rfl (lv_at hl 0 rfl) ?_
        exact hret _ _ _ _ _ _ dX5_pieces_54 h hH
      · have h := h.2 q20
        refine lv_bipush (v := (-3 : Int32)) hx hb dX5_pieces_23 (by decide) ?_
        exact hret _ _ _ _ _ _ dX5_pieces_25 h hH
    · have h := h.2 q7
      exact wX5_pieces_b10 hF hSt hret M H locs ls hH (lv_sub hl [] rfl) h
set_option maxRecDepth 100000 in
theorem kX5_pieces (l : Launch) (G : zG) (M O : zM) (x1 : Int32) (post : Int32 → zM → Prop) (h : pX5_pieces M x1 post) : Met l yX5_pieces wsX5_pieces ({ frames := 1, cells := 0, slots := 0, locals := 24 } : Room) (zPc G true M O [.ref (G.1 0), .int x1]) (va_Qi post (zB G true O) (zAA G)) 0 0 (zAA G) :=
  zmet_i (by decide) rfl (Nat.le_of_ble_eq_true rfl) (fun hF hSt hret H locs ls hH hl => wX5_pieces hF hSt hret x1 H locs ls hH hl h)
end
theorem znX2_isPiece_X2 : ∀ w ∈ wsX20, w ∈ wsX2_isPiece := fun _ h => List.mem_cons_of_mem _ (List.mem_append_right _ h)
theorem zdX2_isPiece : yX2_isPiece.cls ≠ "java/lang/invoke/MethodHandle" ∧ yX2_isPiece.cls ≠ "java/lang/invoke/VarHandle" ∧ (parseMethodDescriptor yX2_isPiece.desc).map (fun d => d.parameters.length) = some 1 := by decide +kernel
-- MixingRelays$Net isPiece(I)Z
section
variable {p : Program} {l : Launch} {e : Env} {s : State} {m : MethodId} {args : Array Value} {below : List Frame} {meth : Method} {c : Code} {Q : State → Prop} {G : zG} {O : zM}
def pX2_isPiece_b17 (M : zM) (post : Int32 → Prop) (t0 : Int32) : Prop :=
  (t0 = 0 ∨ t0 = 1) ∧ post t0
set_option maxHeartbeats 4000000 in
set_option maxRecDepth 100000 in
theorem wX2_isPiece_b17 {M : zM} {post : Int32 → Prop}  (hF : CallFix p m c cX2_isPiece 2 s args wsX2_isPiece RX2) (hSt : zSt G s) (hret : zRz p l e ({ frames := 0, cells := 0, slots := 0, locals := 0 } : Room) s m args below meth c Q cX2_isPiece G true O (fun r M1 => M1 = M ∧ post r)) (t0 : Int32) (H : Heap) (locs : List Loc) (ls : Array Slot) (hH : zH G true s H locs M O) (hl : lv_has ls 2 []) (h : pX2_isPiece_b17 M post t0) : W p l e ({ frames := 0, cells := 0, slots := 0, locals := 0 } : Room) s m args below meth c H locs 0 0 Q (F0 m 17 ls [.int t0]) := by
  obtain ⟨hx, hb, hml, hown, hts⟩ := id hF
  unfold pX2_isPiece_b17 at h
  exact hret _ _ _ _ _ _ dX2_isPiece_17 ⟨h.1, rfl, h.2⟩ hH
def pX2_isPiece_b16 (M : zM) (post : Int32 → Prop) : Prop :=
  pX2_isPiece_b17 M post (0 : Int32)
set_option maxHeartbeats 4000000 in
set_option maxRecDepth 100000 in
theorem wX2_isPiece_b16 {M : zM} {post : Int32 → Prop}  (hF : CallFix p m c cX2_isPiece 2 s args wsX2_isPiece RX2) (hSt : zSt G s) (hret : zRz p l e ({ frames := 0, cells := 0, slots := 0, locals := 0 } : Room) s m args below meth c Q cX2_isPiece G true O (fun r M1 => M1 = M ∧ post r))  (H : Heap) (locs : List Loc) (ls : Array Slot) (hH : zH G true s H locs M O) (hl : lv_has ls 2 []) (h : pX2_isPiece_b16 M post) : W p l e ({ frames := 0, cells := 0, slots := 0, locals := 0 } : Room) s m args below meth c H locs 0 0 Q (F0 m 16 ls []) := by
  obtain ⟨hx, hb, hml, hown, hts⟩ := id hF
  unfold pX2_isPiece_b16 at h
  refine lv_iconst (v := (0 : Int32)) hx hb dX2_isPiece_16 (by decide) ?_
  exact wX2_isPiece_b17 hF hSt hret (0 : Int32) H locs ls hH (lv_sub hl [] rfl) h
def pX2_isPiece (M : zM) (x1 : Int32) (post : Int32 → Prop) : Prop :=
  (x1 < 0 → pX2_isPiece_b16 M post) ∧ (¬ (x1 < 0) → ((M.1 1 2) ≤ x1 → pX2_isPiece_b16 M post) ∧ (¬ ((M.1 1 2) ≤ x1) → pX2_isPiece_b17 M post (1 : Int32)))
set_option maxHeartbeats 4000000 in
set_option maxRecDepth 100000 in
theorem wX2_isPiece {M : zM} {post : Int32 → Prop} (hF : CallFix p m c cX2_isPiece 2 s args wsX2_isPiece RX2) (hSt : zSt G s) (hret : zRz p l e ({ frames := 0, cells := 0, slots := 0, locals := 0 } : Room) s m args below meth c Q cX2_isPiece G true O (fun r M1 => M1 = M ∧ post r)) (x1 : Int32) (H : Heap) (locs : List Loc) (ls : Array Slot) (hH : zH G true s H locs M O) (hl : lv_has ls 2 [(0, .ref (G.1 1)), (1, .int x1)]) (h : pX2_isPiece M x1 post) : W p l e ({ frames := 0, cells := 0, slots := 0, locals := 0 } : Room) s m args below meth c H locs 0 0 Q (F0 m 0 ls []) := by
  obtain ⟨hx, hb, hml, hown, hts⟩ := id hF
  unfold pX2_isPiece at h
  refine lv_iload_n hx hb dX2_isPiece_0 rfl (lv_at hl 1 rfl) ?_
  refine lv_if_lt (tgt := 16) hx hb dX2_isPiece_1 (by decide) (fun q1 => ?_) (fun q1 => ?_)
  · have h := h.1 q1
    exact wX2_isPiece_b16 hF hSt hret  H locs ls hH (lv_sub hl [] rfl) h
  · have h := h.2 q1
    refine lv_iload_n hx hb dX2_isPiece_4 rfl (lv_at hl 1 rfl) ?_
    refine lv_aload_n hx hb dX2_isPiece_5 rfl (lv_at hl 0 rfl) ?_
    refine zget (v := .int (M.1 1 2)) hF hSt hH 1 (by decide) rfl (zE_1 _ _ _) (C := RX2) (T := TX2) (N := 16) rfl znX2_isPiece_X2 2 (by decide) (List.mem_of_getElem? (i := 1) rfl) rfl dX2_isPiece_6 ?_
    refine lv_icmp_ge (tgt := 16) hx hb dX2_isPiece_9 (by decide) (fun q9 => ?_) (fun q9 => ?_)
    · have h := h.1 q9
      exact wX2_isPiece_b16 hF hSt hret  H locs ls hH (lv_sub hl [] rfl) h
    · have h := h.2 q9
      refine lv_iconst (v := (1 : Int32)) hx hb dX2_isPiece_12 (by decide) ?_
      refine lv_goto (tgt := 17) hx hb dX2_isPiece_13 (by decide) ?_
      exact wX2_isPiece_b17 hF hSt hret (1 : Int32) H locs ls hH (lv_sub hl [] rfl) h
set_option maxRecDepth 100000 in
theorem kX2_isPiece (l : Launch) (G : zG) (M O : zM) (x1 : Int32) (post : Int32 → Prop) (h : pX2_isPiece M x1 post) : Met l yX2_isPiece wsX2_isPiece ({ frames := 0, cells := 0, slots := 0, locals := 0 } : Room) (zPc G true M O [.ref (G.1 1), .int x1]) (va_Qi (fun r M1 => M1 = M ∧ post r) (zB G true O) (zAA G)) 0 0 (zAA G) :=
  zmet_z (by decide) rfl (Nat.le_of_ble_eq_true rfl) (fun hF hSt hret H locs ls hH hl => wX2_isPiece hF hSt hret x1 H locs ls hH hl h)
end
theorem znX5_piece_X5 : ∀ w ∈ wsX50, w ∈ wsX5_piece := fun _ h => List.mem_cons_of_mem _ (List.mem_append_left _ (List.mem_append_right _ h))
theorem znX5_piece_X2 : ∀ w ∈ wsX20, w ∈ wsX5_piece := fun _ h => List.mem_cons_of_mem _ (List.mem_append_right _ h)
theorem zdX5_piece : yX5_piece.cls ≠ "java/lang/invoke/MethodHandle" ∧ yX5_piece.cls ≠ "java/lang/invoke/VarHandle" ∧ (parseMethodDescriptor yX5_piece.desc).map (fun d => d.parameters.length) = some 2 := by decide +kernel
-- MixingRelays piece(IJ)I
section
variable {p : Program} {l : Launch} {e : Env} {s : State} {m : MethodId} {args : Array Value} {below : List Frame} {meth : Method} {c : Code} {Q : State → Prop} {G : zG} {O : zM}
def pX5_piece (M : zM) (x1 : Int32) (x2 : Int64) (post : Int32 → zM → Prop) : Prop :=
  pX2_isPiece M x1 (fun r5 => (¬ (r5 = 0) → vp_in x1 4 ∧ post (0 : Int32) (zsj M 9 x1.toNatClampNeg x2)) ∧ (r5 = 0 → post (-1 : Int32) M))
set_option maxHeartbeats 4000000 in
set_option maxRecDepth 100000 in
theorem wX5_piece {M : zM} {post : Int32 → zM → Prop} (hF : CallFix p m c cX5_piece 4 s args wsX5_piece RX5) (hSt : zSt G s) (hret : zRi p l e ({ frames := 1, cells := 0, slots := 0, locals := 21 } : Room) s m args below meth c Q cX5_piece G true O post) (x1 : Int32) (x2 : Int64) (H : Heap) (locs : List Loc) (ls : Array Slot) (hH : zH G true s H locs M O) (hl : lv_has ls 4 [(0, .ref (G.1 0)), (1, .int x1), (2, .long x2)]) (h : pX5_piece M x1 x2 post) : W p l e ({ frames := 1, cells := 0, slots := 0, locals := 21 } : Room) s m args below meth c H locs 0 0 Q (F0 m 0 ls []) := by
  obtain ⟨hx, hb, hml, hown, hts⟩ := id hF
  unfold pX5_piece at h
  refine lv_aload_n hx hb dX5_piece_0 rfl (lv_at hl 0 rfl) ?_
  refine zget (v := .ref (G.1 1)) hF hSt hH 0 (by decide) rfl (zE_0 _ _ _) (C := RX5) (T := TX5) (N := 5) rfl znX5_piece_X5 0 (by decide) (List.mem_of_getElem? (i := 1) rfl) rfl dX5_piece_1 ?_
  refine lv_iload_n hx hb dX5_piece_4 rfl (lv_at hl 1 rfl) ?_
  refine zcalliP hH (va_runV (As := [.int x1]) (rest := []) hF (kX2_isPiece l G M O x1 _ h) (cwV 1 hts gX5_piece_X2_isPiece rfl rfl rfl ⟨rfl, zdX2_isPiece⟩ ⟨Nat.le_of_ble_eq_true rfl, Nat.le_of_ble_eq_true rfl⟩) (zpreV hSt hH 1 (by decide) rfl (zE_1 _ _ _) (q := (RX2, TX2, 16)) rfl [.int x1]) rfl rfl hl.1 rfl (lv_room (Nat.le_of_ble_eq_true rfl)) dX5_piece_5 ⟨Nat.zero_le _, Nat.zero_le _⟩) (fun r5 H locs h hH => ?_)
  refine lv_if_ne (tgt := 13) hx hb dX5_piece_8 (by decide) (fun q8 => ?_) (fun q8 => ?_)
  · have h := h.1 q8
    refine lv_aload_n hx hb dX5_piece_13 rfl (lv_at hl 0 rfl) ?_
    refine zget (v := .ref (G.1 1)) hF hSt hH 0 (by decide) rfl (zE_0 _ _ _) (C := RX5) (T := TX5) (N := 5) rfl znX5_piece_X5 0 (by decide) (List.mem_of_getElem? (i := 1) rfl) rfl dX5_piece_14 ?_
    refine zget (v := .ref (G.1 9)) hF hSt hH 1 (by decide) rfl (zE_1 _ _ _) (C := RX2) (T := TX2) (N := 16) rfl znX5_piece_X2 9 (by decide) (List.mem_of_getElem? (i := 2) rfl) rfl dX5_piece_17 ?_
    refine lv_iload_n hx hb dX5_piece_20 rfl (lv_at hl 1 rfl) ?_
    refine lv_lload_n hx hb dX5_piece_21 rfl (lv_at hl 2 rfl) ?_
    obtain ⟨q22, h⟩ := h
    refine zlast hF hSt hH 9 (by decide) rfl (zE_9 _) (x := x2) q22 dX5_piece_22 (fun H locs hH => ?_)
    refine lv_iconst (v := (0 : Int32)) hx hb dX5_piece_23 (by decide) ?_
    exact hret _ _ _ _ _ _ dX5_piece_24 h hH
  · have h := h.2 q8
    refine lv_iconst (v := (-1 : Int32)) hx hb dX5_piece_11 (by decide) ?_
    exact hret _ _ _ _ _ _ dX5_piece_12 h hH
set_option maxRecDepth 100000 in
theorem kX5_piece (l : Launch) (G : zG) (M O : zM) (x1 : Int32) (x2 : Int64) (post : Int32 → zM → Prop) (h : pX5_piece M x1 x2 post) : Met l yX5_piece wsX5_piece ({ frames := 1, cells := 0, slots := 0, locals := 21 } : Room) (zPc G true M O [.ref (G.1 0), .int x1, .long x2]) (va_Qi post (zB G true O) (zAA G)) 0 0 (zAA G) :=
  zmet_i (by decide) rfl (Nat.le_of_ble_eq_true rfl) (fun hF hSt hret H locs ls hH hl => wX5_piece hF hSt hret x1 x2 H locs ls hH hl h)
end
theorem zdX5_isFlag : yX5_isFlag.cls ≠ "java/lang/invoke/MethodHandle" ∧ yX5_isFlag.cls ≠ "java/lang/invoke/VarHandle" ∧ (parseMethodDescriptor yX5_isFlag.desc).map (fun d => d.parameters.length) = some 1 := by decide +kernel
-- MixingRelays isFlag(I)Z
section
variable {p : Program} {l : Launch} {e : Env} {s : State} {m : MethodId} {args : Array Value} {below : List Frame} {meth : Method} {c : Code} {Q : State → Prop} {G : zG} {O : zM}
def pX5_isFlag_b14 (post : Int32 → Prop) (t0 : Int32) : Prop :=
  (t0 = 0 ∨ t0 = 1) ∧ post t0
set_option maxHeartbeats 4000000 in
set_option maxRecDepth 100000 in
theorem wX5_isFlag_b14 {M : zM} {post : Int32 → Prop}  (hF : CallFix p m c cX5_isFlag 1 s args wsX5_isFlag RX5) (hSt : zSt G s) (hret : zRz p l e ({ frames := 0, cells := 0, slots := 0, locals := 0 } : Room) s m args below meth c Q cX5_isFlag G true O (fun r M1 => M1 = M ∧ post r)) (t0 : Int32) (H : Heap) (locs : List Loc) (ls : Array Slot) (hH : zH G true s H locs M O) (hl : lv_has ls 1 []) (h : pX5_isFlag_b14 post t0) : W p l e ({ frames := 0, cells := 0, slots := 0, locals := 0 } : Room) s m args below meth c H locs 0 0 Q (F0 m 14 ls [.int t0]) := by
  obtain ⟨hx, hb, hml, hown, hts⟩ := id hF
  unfold pX5_isFlag_b14 at h
  exact hret _ _ _ _ _ _ dX5_isFlag_14 ⟨h.1, rfl, h.2⟩ hH
def pX5_isFlag_b9 (post : Int32 → Prop) : Prop :=
  pX5_isFlag_b14 post (1 : Int32)
set_option maxHeartbeats 4000000 in
set_option maxRecDepth 100000 in
theorem wX5_isFlag_b9 {M : zM} {post : Int32 → Prop}  (hF : CallFix p m c cX5_isFlag 1 s args wsX5_isFlag RX5) (hSt : zSt G s) (hret : zRz p l e ({ frames := 0, cells := 0, slots := 0, locals := 0 } : Room) s m args below meth c Q cX5_isFlag G true O (fun r M1 => M1 = M ∧ post r))  (H : Heap) (locs : List Loc) (ls : Array Slot) (hH : zH G true s H locs M O) (hl : lv_has ls 1 []) (h : pX5_isFlag_b9 post) : W p l e ({ frames := 0, cells := 0, slots := 0, locals := 0 } : Room) s m args below meth c H locs 0 0 Q (F0 m 9 ls []) := by
  obtain ⟨hx, hb, hml, hown, hts⟩ := id hF
  unfold pX5_isFlag_b9 at h
  refine lv_iconst (v := (1 : Int32)) hx hb dX5_isFlag_9 (by decide) ?_
  refine lv_goto (tgt := 14) hx hb dX5_isFlag_10 (by decide) ?_
  exact wX5_isFlag_b14 hF hSt hret (1 : Int32) H locs ls hH (lv_sub hl [] rfl) h
def pX5_isFlag (x0 : Int32) (post : Int32 → Prop) : Prop :=
  (x0 = 0 → pX5_isFlag_b9 post) ∧ (¬ (x0 = 0) → (¬ (x0 = (1 : Int32)) → pX5_isFlag_b14 post (0 : Int32)) ∧ (x0 = (1 : Int32) → pX5_isFlag_b9 post))
set_option maxHeartbeats 4000000 in
set_option maxRecDepth 100000 in
theorem wX5_isFlag {M : zM} {post : Int32 → Prop} (hF : CallFix p m c cX5_isFlag 1 s args wsX5_isFlag RX5) (hSt : zSt G s) (hret : zRz p l e ({ frames := 0, cells := 0, slots := 0, locals := 0 } : Room) s m args below meth c Q cX5_isFlag G true O (fun r M1 => M1 = M ∧ post r)) (x0 : Int32) (H : Heap) (locs : List Loc) (ls : Array Slot) (hH : zH G true s H locs M O) (hl : lv_has ls 1 [(0, .int x0)]) (h : pX5_isFlag x0 post) : W p l e ({ frames := 0, cells := 0, slots := 0, locals := 0 } : Room) s m args below meth c H locs 0 0 Q (F0 m 0 ls []) := by
  obtain ⟨hx, hb, hml, hown, hts⟩ := id hF
  unfold pX5_isFlag at h
  refine lv_iload_n hx hb dX5_isFlag_0 rfl (lv_at hl 0 rfl) ?_
  refine lv_if_eq (tgt := 9) hx hb dX5_isFlag_1 (by decide) (fun q1 => ?_) (fun q1 => ?_)
  · have h := h.1 q1
    exact wX5_isFlag_b9 hF hSt hret  H locs ls hH (lv_sub hl [] rfl) h
  · have h := h.2 q1
    refine lv_iload_n hx hb dX5_isFlag_4 rfl (lv_at hl 0 rfl) ?_
    refine lv_iconst (v := (1 : Int32)) hx hb dX5_isFlag_5 (by decide) ?_
    refine lv_icmp_ne (tgt := 13) hx hb dX5_isFlag_6 (by decide) (fun q6 => ?_) (fun q6 => ?_)
    · have h := h.1 q6
      refine lv_iconst (v := (0 : Int32)) hx hb dX5_isFlag_13 (by decide) ?_
      exact wX5_isFlag_b14 hF hSt hret (0 : Int32) H locs ls hH (lv_sub hl [] rfl) h
    · have h := h.2 q6
      exact wX5_isFlag_b9 hF hSt hret  H locs ls hH (lv_sub hl [] rfl) h
set_option maxRecDepth 100000 in
theorem kX5_isFlag (l : Launch) (G : zG) (M O : zM) (x0 : Int32) (post : Int32 → Prop) (h : pX5_isFlag x0 post) : Met l yX5_isFlag wsX5_isFlag ({ frames := 0, cells := 0, slots := 0, locals := 0 } : Room) (zPc G true M O [.int x0]) (va_Qi (fun r M1 => M1 = M ∧ post r) (zB G true O) (zAA G)) 0 0 (zAA G) :=
  zmet_z (by decide) rfl (Nat.le_of_ble_eq_true rfl) (fun hF hSt hret H locs ls hH hl => wX5_isFlag hF hSt hret x0 H locs ls hH hl h)
end
theorem zdX5_flag : yX5_flag.cls ≠ "java/lang/invoke/MethodHandle" ∧ yX5_flag.cls ≠ "java/lang/invoke/VarHandle" ∧ (parseMethodDescriptor yX5_flag.desc).map (fun d => d.parameters.length) = some 2 := by decide +kernel
-- MixingRelays flag(II)I
section
variable {p : Program} {l : Launch} {e : Env} {s : State} {m : MethodId} {args : Array Value} {below : List Frame} {meth : Method} {c : Code} {Q : State → Prop} {G : zG} {O : zM}
def pX5_flag (x0 : Int32) (x1 : Int32) (post : Int32 → Prop) : Prop :=
  post (((x0).toUInt32 >>> ((x1).toUInt32 &&& Int32.toUInt32 31)).toInt32 &&& (1 : Int32))
set_option maxHeartbeats 4000000 in
set_option maxRecDepth 100000 in
theorem wX5_flag {M : zM} {post : Int32 → Prop} (hF : CallFix p m c cX5_flag 2 s args wsX5_flag RX5) (hSt : zSt G s) (hret : zRi p l e ({ frames := 0, cells := 0, slots := 0, locals := 0 } : Room) s m args below meth c Q cX5_flag G true O (fun r M1 => M1 = M ∧ post r)) (x0 : Int32) (x1 : Int32) (H : Heap) (locs : List Loc) (ls : Array Slot) (hH : zH G true s H locs M O) (hl : lv_has ls 2 [(0, .int x0), (1, .int x1)]) (h : pX5_flag x0 x1 post) : W p l e ({ frames := 0, cells := 0, slots := 0, locals := 0 } : Room) s m args below meth c H locs 0 0 Q (F0 m 0 ls []) := by
  obtain ⟨hx, hb, hml, hown, hts⟩ := id hF
  unfold pX5_flag at h
  refine lv_iload_n hx hb dX5_flag_0 rfl (lv_at hl 0 rfl) ?_
  refine lv_iload_n hx hb dX5_flag_1 rfl (lv_at hl 1 rfl) ?_
  refine lv_iushr hx hb dX5_flag_2 rfl ?_
  refine lv_iconst (v := (1 : Int32)) hx hb dX5_flag_3 (by decide) ?_
  refine lv_iand hx hb dX5_flag_4 ?_
  exact hret _ _ _ _ _ _ dX5_flag_5 ⟨rfl, h⟩ hH
set_option maxRecDepth 100000 in
theorem kX5_flag (l : Launch) (G : zG) (M O : zM) (x0 : Int32) (x1 : Int32) (post : Int32 → Prop) (h : pX5_flag x0 x1 post) : Met l yX5_flag wsX5_flag ({ frames := 0, cells := 0, slots := 0, locals := 0 } : Room) (zPc G true M O [.int x0, .int x1]) (va_Qi (fun r M1 => M1 = M ∧ post r) (zB G true O) (zAA G)) 0 0 (zAA G) :=
  zmet_i (by decide) rfl (Nat.le_of_ble_eq_true rfl) (fun hF hSt hret H locs ls hH hl => wX5_flag hF hSt hret x0 x1 H locs ls hH hl h)
end
theorem zdX5_withFlag : yX5_withFlag.cls ≠ "java/lang/invoke/MethodHandle" ∧ yX5_withFlag.cls ≠ "java/lang/invoke/VarHandle" ∧ (parseMethodDescriptor yX5_withFlag.desc).map (fun d => d.parameters.length) = some 3 := by decide +kernel
-- MixingRelays withFlag(III)I
section
variable {p : Program} {l : Launch} {e : Env} {s : State} {m : MethodId} {args : Array Value} {below : List Frame} {meth : Method} {c : Code} {Q : State → Prop} {G : zG} {O : zM}
def pX5_withFlag (x0 : Int32) (x1 : Int32) (x2 : Int32) (post : Int32 → Prop) : Prop :=
  post ((x0 &&& (((1 : Int32) <<< (x1 &&& 31)) ^^^ (-1 : Int32))) ||| (x2 <<< (x1 &&& 31)))
set_option maxHeartbeats 4000000 in
set_option maxRecDepth 100000 in
theorem wX5_withFlag {M : zM} {post : Int32 → Prop} (hF : CallFix p m c cX5_withFlag 3 s args wsX5_withFlag RX5) (hSt : zSt G s) (hret : zRi p l e ({ frames := 0, cells := 0, slots := 0, locals := 0 } : Room) s m args below meth c Q cX5_withFlag G true O (fun r M1 => M1 = M ∧ post r)) (x0 : Int32) (x1 : Int32) (x2 : Int32) (H : Heap) (locs : List Loc) (ls : Array Slot) (hH : zH G true s H locs M O) (hl : lv_has ls 3 [(0, .int x0), (1, .int x1), (2, .int x2)]) (h : pX5_withFlag x0 x1 x2 post) : W p l e ({ frames := 0, cells := 0, slots := 0, locals := 0 } : Room) s m args below meth c H locs 0 0 Q (F0 m 0 ls []) := by
  obtain ⟨hx, hb, hml, hown, hts⟩ := id hF
  unfold pX5_withFlag at h
  refine lv_iload_n hx hb dX5_withFlag_0 rfl (lv_at hl 0 rfl) ?_
  refine lv_iconst (v := (1 : Int32)) hx hb dX5_withFlag_1 (by decide) ?_
  refine lv_iload_n hx hb dX5_withFlag_2 rfl (lv_at hl 1 rfl) ?_
  refine lv_ishl hx hb dX5_withFlag_3 ?_
  refine lv_iconst (v := (-1 : Int32)) hx hb dX5_withFlag_4 (by decide) ?_
  refine lv_ixor hx hb dX5_withFlag_5 ?_
  refine lv_iand hx hb dX5_withFlag_6 ?_
  refine lv_iload_n hx hb dX5_withFlag_7 rfl (lv_at hl 2 rfl) ?_
  refine lv_iload_n hx hb dX5_withFlag_8 rfl (lv_at hl 1 rfl) ?_
  refine lv_ishl hx hb dX5_withFlag_9 ?_
  refine lv_ior hx hb dX5_withFlag_10 ?_
  exact hret _ _ _ _ _ _ dX5_withFlag_11 ⟨rfl, h⟩ hH
set_option maxRecDepth 100000 in
theorem kX5_withFlag (l : Launch) (G : zG) (M O : zM) (x0 : Int32) (x1 : Int32) (x2 : Int32) (post : Int32 → Prop) (h : pX5_withFlag x0 x1 x2 post) : Met l yX5_withFlag wsX5_withFlag ({ frames := 0, cells := 0, slots := 0, locals := 0 } : Room) (zPc G true M O [.int x0, .int x1, .int x2]) (va_Qi (fun r M1 => M1 = M ∧ post r) (zB G true O) (zAA G)) 0 0 (zAA G) :=
  zmet_i (by decide) rfl (Nat.le_of_ble_eq_true rfl) (fun hF hSt hret H locs ls hH hl => wX5_withFlag hF hSt hret x0 x1 x2 H locs ls hH hl h)
end
