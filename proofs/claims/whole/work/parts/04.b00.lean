theorem znX6_relay_X6 : ∀ w ∈ wsX60, w ∈ wsX6_relay := fun _ h => List.mem_cons_of_mem _ (List.mem_append_right _ h)
theorem zdX6_relay : yX6_relay.cls ≠ "java/lang/invoke/MethodHandle" ∧ yX6_relay.cls ≠ "java/lang/invoke/VarHandle" ∧ (parseMethodDescriptor yX6_relay.desc).map (fun d => d.parameters.length) = some 0 := by decide +kernel
-- MixingRelaysModel relay()I
section
variable {p : Program} {l : Launch} {e : Env} {s : State} {m : MethodId} {args : Array Value} {below : List Frame} {meth : Method} {c : Code} {Q : State → Prop} {G : zG} {O : zM}
def pX6_relay (M : zM)  (post : Int32 → zM → Prop) : Prop :=
  (¬ ((M.1 21 1) = (12 : Int32)) → post (((zsi M 21 1 ((M.1 21 1) + (1 : Int32))).1 21 1) - (1 : Int32)) (zsi M 21 1 ((M.1 21 1) + (1 : Int32)))) ∧ ((M.1 21 1) = (12 : Int32) → post (-4 : Int32) M)
set_option maxHeartbeats 4000000 in
set_option maxRecDepth 100000 in
theorem wX6_relay {M : zM} {post : Int32 → zM → Prop} (hF : CallFix p m c cX6_relay 1 s args wsX6_relay RX6) (hSt : zSt G s) (hret : zRi p l e ({ frames := 0, cells := 0, slots := 0, locals := 0 } : Room) s m args below meth c Q cX6_relay G false O post)  (H : Heap) (locs : List Loc) (ls : Array Slot) (hH : zH G false s H locs M O) (hl : lv_has ls 1 [(0, .ref (G.1 21))]) (h : pX6_relay M  post) : W p l e ({ frames := 0, cells := 0, slots := 0, locals := 0 } : Room) s m args below meth c H locs 0 0 Q (F0 m 0 ls []) := by
  obtain ⟨hx, hb, hml, hown, hts⟩ := id hF
  unfold pX6_relay at h
  refine lv_aload_n hx hb dX6_relay_0 rfl (lv_at hl 0 rfl) ?_
  refine zget (v := .int (M.1 21 1)) hF hSt hH 21 (by decide) rfl (zE_21 _ _ _) (C := RX6) (T := TX6) (N := 31) rfl znX6_relay_X6 1 (by decide) (List.mem_of_getElem? (i := 1) rfl) rfl dX6_relay_1 ?_
  refine lv_bipush (v := (12 : Int32)) hx hb dX6_relay_4 (by decide) ?_
  refine lv_icmp_ne (tgt := 12) hx hb dX6_relay_6 (by decide) (fun q6 => ?_) (fun q6 => ?_)
  · have h := h.1 q6
    refine lv_aload_n hx hb dX6_relay_12 rfl (lv_at hl 0 rfl) ?_
    refine lv_dup hx hb dX6_relay_13 rfl ?_
    refine zget (v := .int (M.1 21 1)) hF hSt hH 21 (by decide) rfl (zE_21 _ _ _) (C := RX6) (T := TX6) (N := 31) rfl znX6_relay_X6 1 (by decide) (List.mem_of_getElem? (i := 1) rfl) rfl dX6_relay_14 ?_
    refine lv_iconst (v := (1 : Int32)) hx hb dX6_relay_17 (by decide) ?_
    refine lv_iadd hx hb dX6_relay_18 ?_
    refine zput hF hSt hH 21 (by decide) rfl (zE_21 _ _ _) (C := RX6) (T := TX6) (N := 31) rfl znX6_relay_X6 tyX6 tyX6_ok nmX6 1 (by decide) (List.mem_of_getElem? (i := 1) rfl) rfl (by decide +kernel) (Nat.le_of_ble_eq_true rfl) (x := ((M.1 21 1) + (1 : Int32))) rfl dX6_relay_19 (fun H locs hH => ?_)
    refine lv_aload_n hx hb dX6_relay_22 rfl (lv_at hl 0 rfl) ?_
    refine zget (v := .int ((zsi M 21 1 ((M.1 21 1) + (1 : Int32))).1 21 1)) hF hSt hH 21 (by decide) rfl (zE_21 _ _ _) (C := RX6) (T := TX6) (N := 31) rfl znX6_relay_X6 1 (by decide) (List.mem_of_getElem? (i := 1) rfl) rfl dX6_relay_23 ?_
    refine lv_iconst (v := (1 : Int32)) hx hb dX6_relay_26 (by decide) ?_
    refine lv_isub hx hb dX6_relay_27 ?_
    exact hret _ _ _ _ _ _ dX6_relay_28 h hH
  · have h := h.2 q6
    refine lv_bipush (v := (-4 : Int32)) hx hb dX6_relay_9 (by decide) ?_
    exact hret _ _ _ _ _ _ dX6_relay_11 h hH
set_option maxRecDepth 100000 in
theorem kX6_relay (l : Launch) (G : zG) (M O : zM)  (post : Int32 → zM → Prop) (h : pX6_relay M  post) : Met l yX6_relay wsX6_relay ({ frames := 0, cells := 0, slots := 0, locals := 0 } : Room) (zPc G false M O [.ref (G.1 21)]) (va_Qi post (zB G false O) (zAA G)) 0 0 (zAA G) :=
  zmet_i (by decide) rfl (Nat.le_of_ble_eq_true rfl) (fun hF hSt hret H locs ls hH hl => wX6_relay hF hSt hret  H locs ls hH hl h)
end
theorem zdX6_in : yX6_in.cls ≠ "java/lang/invoke/MethodHandle" ∧ yX6_in.cls ≠ "java/lang/invoke/VarHandle" ∧ (parseMethodDescriptor yX6_in.desc).map (fun d => d.parameters.length) = some 3 := by decide +kernel
-- MixingRelaysModel in(III)Z
section
variable {p : Program} {l : Launch} {e : Env} {s : State} {m : MethodId} {args : Array Value} {below : List Frame} {meth : Method} {c : Code} {Q : State → Prop} {G : zG} {O : zM}
def pX6_in_b15 (post : Int32 → Prop) (t0 : Int32) : Prop :=
  (t0 = 0 ∨ t0 = 1) ∧ post t0
set_option maxHeartbeats 4000000 in
set_option maxRecDepth 100000 in
theorem wX6_in_b15 {M : zM} {post : Int32 → Prop}  (hF : CallFix p m c cX6_in 3 s args wsX6_in RX6) (hSt : zSt G s) (hret : zRz p l e ({ frames := 0, cells := 0, slots := 0, locals := 0 } : Room) s m args below meth c Q cX6_in G false O (fun r M1 => M1 = M ∧ post r)) (t0 : Int32) (H : Heap) (locs : List Loc) (ls : Array Slot) (hH : zH G false s H locs M O) (hl : lv_has ls 3 []) (h : pX6_in_b15 post t0) : W p l e ({ frames := 0, cells := 0, slots := 0, locals := 0 } : Room) s m args below meth c H locs 0 0 Q (F0 m 15 ls [.int t0]) := by
  obtain ⟨hx, hb, hml, hown, hts⟩ := id hF
  unfold pX6_in_b15 at h
  exact hret _ _ _ _ _ _ dX6_in_15 ⟨h.1, rfl, h.2⟩ hH
def pX6_in_b14 (post : Int32 → Prop) : Prop :=
  pX6_in_b15 post (0 : Int32)
set_option maxHeartbeats 4000000 in
set_option maxRecDepth 100000 in
theorem wX6_in_b14 {M : zM} {post : Int32 → Prop}  (hF : CallFix p m c cX6_in 3 s args wsX6_in RX6) (hSt : zSt G s) (hret : zRz p l e ({ frames := 0, cells := 0, slots := 0, locals := 0 } : Room) s m args below meth c Q cX6_in G false O (fun r M1 => M1 = M ∧ post r))  (H : Heap) (locs : List Loc) (ls : Array Slot) (hH : zH G false s H locs M O) (hl : lv_has ls 3 []) (h : pX6_in_b14 post) : W p l e ({ frames := 0, cells := 0, slots := 0, locals := 0 } : Room) s m args below meth c H locs 0 0 Q (F0 m 14 ls []) := by
  obtain ⟨hx, hb, hml, hown, hts⟩ := id hF
  unfold pX6_in_b14 at h
  refine lv_iconst (v := (0 : Int32)) hx hb dX6_in_14 (by decide) ?_
  exact wX6_in_b15 hF hSt hret (0 : Int32) H locs ls hH (lv_sub hl [] rfl) h
def pX6_in (x0 : Int32) (x1 : Int32) (x2 : Int32) (post : Int32 → Prop) : Prop :=
  (x0 < x1 → pX6_in_b14 post) ∧ (¬ (x0 < x1) → (x2 < x0 → pX6_in_b14 post) ∧ (¬ (x2 < x0) → pX6_in_b15 post (1 : Int32)))
set_option maxHeartbeats 4000000 in
set_option maxRecDepth 100000 in
theorem wX6_in {M : zM} {post : Int32 → Prop} (hF : CallFix p m c cX6_in 3 s args wsX6_in RX6) (hSt : zSt G s) (hret : zRz p l e ({ frames := 0, cells := 0, slots := 0, locals := 0 } : Room) s m args below meth c Q cX6_in G false O (fun r M1 => M1 = M ∧ post r)) (x0 : Int32) (x1 : Int32) (x2 : Int32) (H : Heap) (locs : List Loc) (ls : Array Slot) (hH : zH G false s H locs M O) (hl : lv_has ls 3 [(0, .int x0), (1, .int x1), (2, .int x2)]) (h : pX6_in x0 x1 x2 post) : W p l e ({ frames := 0, cells := 0, slots := 0, locals := 0 } : Room) s m args below meth c H locs 0 0 Q (F0 m 0 ls []) := by
  obtain ⟨hx, hb, hml, hown, hts⟩ := id hF
  unfold pX6_in at h
  refine lv_iload_n hx hb dX6_in_0 rfl (lv_at hl 0 rfl) ?_
  refine lv_iload_n hx hb dX6_in_1 rfl (lv_at hl 1 rfl) ?_
  refine lv_icmp_lt (tgt := 14) hx hb dX6_in_2 (by decide) (fun q2 => ?_) (fun q2 => ?_)
  · have h := h.1 q2
    exact wX6_in_b14 hF hSt hret  H locs ls hH (lv_sub hl [] rfl) h
  · have h := h.2 q2
    refine lv_iload_n hx hb dX6_in_5 rfl (lv_at hl 0 rfl) ?_
    refine lv_iload_n hx hb dX6_in_6 rfl (lv_at hl 2 rfl) ?_
    refine lv_icmp_gt (tgt := 14) hx hb dX6_in_7 (by decide) (fun q7 => ?_) (fun q7 => ?_)
    · have h := h.1 q7
      exact wX6_in_b14 hF hSt hret  H locs ls hH (lv_sub hl [] rfl) h
    · have h := h.2 q7
      refine lv_iconst (v := (1 : Int32)) hx hb dX6_in_10 (by decide) ?_
      refine lv_goto (tgt := 15) hx hb dX6_in_11 (by decide) ?_
      exact wX6_in_b15 hF hSt hret (1 : Int32) H locs ls hH (lv_sub hl [] rfl) h
set_option maxRecDepth 100000 in
theorem kX6_in (l : Launch) (G : zG) (M O : zM) (x0 : Int32) (x1 : Int32) (x2 : Int32) (post : Int32 → Prop) (h : pX6_in x0 x1 x2 post) : Met l yX6_in wsX6_in ({ frames := 0, cells := 0, slots := 0, locals := 0 } : Room) (zPc G false M O [.int x0, .int x1, .int x2]) (va_Qi (fun r M1 => M1 = M ∧ post r) (zB G false O) (zAA G)) 0 0 (zAA G) :=
  zmet_z (by decide) rfl (Nat.le_of_ble_eq_true rfl) (fun hF hSt hret H locs ls hH hl => wX6_in hF hSt hret x0 x1 x2 H locs ls hH hl h)
end
theorem znX6_isRelay_X6 : ∀ w ∈ wsX60, w ∈ wsX6_isRelay := fun _ h => List.mem_cons_of_mem _ (List.mem_append_right _ h)
theorem zdX6_isRelay : yX6_isRelay.cls ≠ "java/lang/invoke/MethodHandle" ∧ yX6_isRelay.cls ≠ "java/lang/invoke/VarHandle" ∧ (parseMethodDescriptor yX6_isRelay.desc).map (fun d => d.parameters.length) = some 1 := by decide +kernel
-- MixingRelaysModel isRelay(I)Z
section
variable {p : Program} {l : Launch} {e : Env} {s : State} {m : MethodId} {args : Array Value} {below : List Frame} {meth : Method} {c : Code} {Q : State → Prop} {G : zG} {O : zM}
def pX6_isRelay (M : zM) (x1 : Int32) (post : Int32 → Prop) : Prop :=
  pX6_in x1 (0 : Int32) ((M.1 21 1) - (1 : Int32)) (fun r8 => (r8 = 0 ∨ r8 = 1) ∧ post r8)
set_option maxHeartbeats 4000000 in
set_option maxRecDepth 100000 in
theorem wX6_isRelay {M : zM} {post : Int32 → Prop} (hF : CallFix p m c cX6_isRelay 2 s args wsX6_isRelay RX6) (hSt : zSt G s) (hret : zRz p l e ({ frames := 1, cells := 0, slots := 0, locals := 22 } : Room) s m args below meth c Q cX6_isRelay G false O (fun r M1 => M1 = M ∧ post r)) (x1 : Int32) (H : Heap) (locs : List Loc) (ls : Array Slot) (hH : zH G false s H locs M O) (hl : lv_has ls 2 [(0, .ref (G.1 21)), (1, .int x1)]) (h : pX6_isRelay M x1 post) : W p l e ({ frames := 1, cells := 0, slots := 0, locals := 22 } : Room) s m args below meth c H locs 0 0 Q (F0 m 0 ls []) := by
  obtain ⟨hx, hb, hml, hown, hts⟩ := id hF
  unfold pX6_isRelay at h
  refine lv_iload_n hx hb dX6_isRelay_0 rfl (lv_at hl 1 rfl) ?_
  refine lv_iconst (v := (0 : Int32)) hx hb dX6_isRelay_1 (by decide) ?_
  refine lv_aload_n hx hb dX6_isRelay_2 rfl (lv_at hl 0 rfl) ?_
  refine zget (v := .int (M.1 21 1)) hF hSt hH 21 (by decide) rfl (zE_21 _ _ _) (C := RX6) (T := TX6) (N := 31) rfl znX6_isRelay_X6 1 (by decide) (List.mem_of_getElem? (i := 1) rfl) rfl dX6_isRelay_3 ?_
  refine lv_iconst (v := (1 : Int32)) hx hb dX6_isRelay_6 (by decide) ?_
  refine lv_isub hx hb dX6_isRelay_7 ?_
  refine zcalliP hH (va_runS (As := [.int x1, .int (0 : Int32), .int ((M.1 21 1) - (1 : Int32))]) (rest := []) hF (kX6_in l G M O x1 (0 : Int32) ((M.1 21 1) - (1 : Int32)) _ h) (va_cwS 3 hts gX6_isRelay_X6_in rfl rfl rfl zdX6_in ⟨Nat.le_of_ble_eq_true rfl, Nat.le_of_ble_eq_true rfl⟩) (zpreS hSt hH [.int x1, .int (0 : Int32), .int ((M.1 21 1) - (1 : Int32))]) rfl rfl hl.1 rfl (lv_room (Nat.le_of_ble_eq_true rfl)) dX6_isRelay_8 ⟨Nat.zero_le _, Nat.zero_le _⟩) (fun r8 H locs h hH => ?_)
  exact hret _ _ _ _ _ _ dX6_isRelay_11 ⟨h.1, rfl, h.2⟩ hH
set_option maxRecDepth 100000 in
theorem kX6_isRelay (l : Launch) (G : zG) (M O : zM) (x1 : Int32) (post : Int32 → Prop) (h : pX6_isRelay M x1 post) : Met l yX6_isRelay wsX6_isRelay ({ frames := 1, cells := 0, slots := 0, locals := 22 } : Room) (zPc G false M O [.ref (G.1 21), .int x1]) (va_Qi (fun r M1 => M1 = M ∧ post r) (zB G false O) (zAA G)) 0 0 (zAA G) :=
  zmet_z (by decide) rfl (Nat.le_of_ble_eq_true rfl) (fun hF hSt hret H locs ls hH hl => wX6_isRelay hF hSt hret x1 H locs ls hH hl h)
end
theorem znX6_line_X6 : ∀ w ∈ wsX60, w ∈ wsX6_line := fun _ h => List.mem_cons_of_mem _ (List.mem_append_right _ h)
theorem zdX6_line : yX6_line.cls ≠ "java/lang/invoke/MethodHandle" ∧ yX6_line.cls ≠ "java/lang/invoke/VarHandle" ∧ (parseMethodDescriptor yX6_line.desc).map (fun d => d.parameters.length) = some 2 := by decide +kernel
-- MixingRelaysModel line(II)I
section
variable {p : Program} {l : Launch} {e : Env} {s : State} {m : MethodId} {args : Array Value} {below : List Frame} {meth : Method} {c : Code} {Q : State → Prop} {G : zG} {O : zM}
def pX6_line_b16 (post : Int32 → zM → Prop) (M : zM) : Prop :=
  post (-1 : Int32) M
set_option maxHeartbeats 4000000 in
set_option maxRecDepth 100000 in
theorem wX6_line_b16 {post : Int32 → zM → Prop}  (hF : CallFix p m c cX6_line 3 s args wsX6_line RX6) (hSt : zSt G s) (hret : zRi p l e ({ frames := 2, cells := 0, slots := 0, locals := 43 } : Room) s m args below meth c Q cX6_line G false O post) (M : zM) (H : Heap) (locs : List Loc) (ls : Array Slot) (hH : zH G false s H locs M O) (hl : lv_has ls 3 []) (h : pX6_line_b16 post M) : W p l e ({ frames := 2, cells := 0, slots := 0, locals := 43 } : Room) s m args below meth c H locs 0 0 Q (F0 m 16 ls []) := by
  obtain ⟨hx, hb, hml, hown, hts⟩ := id hF
  unfold pX6_line_b16 at h
  refine lv_iconst (v := (-1 : Int32)) hx hb dX6_line_16 (by decide) ?_
  exact hret _ _ _ _ _ _ dX6_line_17 h hH
def pX6_line (M : zM) (x1 : Int32) (x2 : Int32) (post : Int32 → zM → Prop) : Prop :=
  pX6_isRelay M x1 (fun r2 => (r2 = 0 → pX6_line_b16 post M) ∧ (¬ (r2 = 0) → pX6_isRelay M x2 (fun r10 => (¬ (r10 = 0) → (x1 < x2 → (¬ ((M.1 21 2) = (30 : Int32)) → vp_in (M.1 21 2) 30 ∧ vp_in ((zsi M 24 ((M.1 21 2)).toNatClampNeg x1).1 21 2) 30 ∧ post (((zsi (zsi (zsi M 24 ((M.1 21 2)).toNatClampNeg x1) 25 (((zsi M 24 ((M.1 21 2)).toNatClampNeg x1).1 21 2)).toNatClampNeg x2) 21 2 (((zsi (zsi M 24 ((M.1 21 2)).toNatClampNeg x1) 25 (((zsi M 24 ((M.1 21 2)).toNatClampNeg x1).1 21 2)).toNatClampNeg x2).1 21 2) + (1 : Int32))).1 21 2) - (1 : Int32)) (zsi (zsi (zsi M 24 ((M.1 21 2)).toNatClampNeg x1) 25 (((zsi M 24 ((M.1 21 2)).toNatClampNeg x1).1 21 2)).toNatClampNeg x2) 21 2 (((zsi (zsi M 24 ((M.1 21 2)).toNatClampNeg x1) 25 (((zsi M 24 ((M.1 21 2)).toNatClampNeg x1).1 21 2)).toNatClampNeg x2).1 21 2) + (1 : Int32)))) ∧ ((M.1 21 2) = (30 : Int32) → post (-4 : Int32) M)) ∧ (¬ (x1 < x2) → post (-2 : Int32) M)) ∧ (r10 = 0 → pX6_line_b16 post M))))
set_option maxHeartbeats 4000000 in
set_option maxRecDepth 100000 in
theorem wX6_line {M : zM} {post : Int32 → zM → Prop} (hF : CallFix p m c cX6_line 3 s args wsX6_line RX6) (hSt : zSt G s) (hret : zRi p l e ({ frames := 2, cells := 0, slots := 0, locals := 43 } : Room) s m args below meth c Q cX6_line G false O post) (x1 : Int32) (x2 : Int32) (H : Heap) (locs : List Loc) (ls : Array Slot) (hH : zH G false s H locs M O) (hl : lv_has ls 3 [(0, .ref (G.1 21)), (1, .int x1), (2, .int x2)]) (h : pX6_line M x1 x2 post) : W p l e ({ frames := 2, cells := 0, slots := 0, locals := 43 } : Room) s m args below meth c H locs 0 0 Q (F0 m 0 ls []) := by
  obtain ⟨hx, hb, hml, hown, hts⟩ := id hF
  unfold pX6_line at h
  refine lv_aload_n hx hb dX6_line_0 rfl (lv_at hl 0 rfl) ?_
  refine lv_iload_n hx hb dX6_line_1 rfl (lv_at hl 1 rfl) ?_
  refine zcalliP hH (va_runV (As := [.int x1]) (rest := []) hF (kX6_isRelay l G M O x1 _ h) (cwV 1 hts gX6_line_X6_isRelay rfl rfl rfl ⟨rfl, zdX6_isRelay⟩ ⟨Nat.le_of_ble_eq_true rfl, Nat.le_of_ble_eq_true rfl⟩) (zpreV hSt hH 21 (by decide) rfl (zE_21 _ _ _) (q := (RX6, TX6, 31)) rfl [.int x1]) rfl rfl hl.1 rfl (lv_room (Nat.le_of_ble_eq_true rfl)) dX6_line_2 ⟨Nat.zero_le _, Nat.zero_le _⟩) (fun r2 H locs h hH => ?_)
  refine lv_if_eq (tgt := 16) hx hb dX6_line_5 (by decide) (fun q5 => ?_) (fun q5 => ?_)
  · have h := h.1 q5
    exact wX6_line_b16 hF hSt hret M H locs ls hH (lv_sub hl [] rfl) h
  · have h := h.2 q5
    refine lv_aload_n hx hb dX6_line_8 rfl (lv_at hl 0 rfl) ?_
    refine lv_iload_n hx hb dX6_line_9 rfl (lv_at hl 2 rfl) ?_
    refine zcalliP hH (va_runV (As := [.int x2]) (rest := []) hF (kX6_isRelay l G M O x2 _ h) (cwV 1 hts gX6_line_X6_isRelay rfl rfl rfl ⟨rfl, zdX6_isRelay⟩ ⟨Nat.le_of_ble_eq_true rfl, Nat.le_of_ble_eq_true rfl⟩) (zpreV hSt hH 21 (by decide) rfl (zE_21 _ _ _) (q := (RX6, TX6, 31)) rfl [.int x2]) rfl rfl hl.1 rfl (lv_room (Nat.le_of_ble_eq_true rfl)) dX6_line_10 ⟨Nat.zero_le _, Nat.zero_le _⟩) (fun r10 H locs h hH => ?_)
    refine lv_if_ne (tgt := 18) hx hb dX6_line_13 (by decide) (fun q13 => ?_) (fun q13 => ?_)
    · have h := h.1 q13
      refine lv_iload_n hx hb dX6_line_18 rfl (lv_at hl 2 rfl) ?_
      refine lv_iload_n hx hb dX6_line_19 rfl (lv_at hl 1 rfl) ?_
      refine lv_icmp_gt (tgt := 26) hx hb dX6_line_20 (by decide) (fun q20 => ?_) (fun q20 => ?_)
      · have h := h.1 q20
        refine lv_aload_n hx hb dX6_line_26 rfl (lv_at hl 0 rfl) ?_
        refine zget (v := .int (M.1 21 2)) hF hSt hH 21 (by decide) rfl (zE_21 _ _ _) (C := RX6) (T := TX6) (N := 31) rfl znX6_line_X6 2 (by decide) (List.mem_of_getElem? (i := 1) rfl) rfl dX6_line_27 ?_
        refine lv_bipush (v := (30 : Int32)) hx hb dX6_line_30 (by decide) ?_
        refine lv_icmp_ne (tgt := 38) hx hb dX6_line_32 (by decide) (fun q32 => ?_) (fun q32 => ?_)
        · have h := h.1 q32
          refine lv_aload_n hx hb dX6_line_38 rfl (lv_at hl 0 rfl) ?_
          refine zget (v := .ref (G.1 24)) hF hSt hH 21 (by decide) rfl (zE_21 _ _ _) (C := RX6) (T := TX6) (N := 31) rfl znX6_line_X6 6 (by decide) (List.mem_of_getElem? (i := 2) rfl) rfl dX6_line_39 ?_
          refine lv_aload_n hx hb dX6_line_42 rfl (lv_at hl 0 rfl) ?_
          refine zget (v := .int (M.1 21 2)) hF hSt hH 21 (by decide) rfl (zE_21 _ _ _) (C := RX6) (T := TX6) (N := 31) rfl znX6_line_X6 2 (by decide) (List.mem_of_getElem? (i := 1) rfl) rfl dX6_line_43 ?_
          refine lv_iload_n hx hb dX6_line_46 rfl (lv_at hl 1 rfl) ?_
          obtain ⟨q47, h⟩ := h
          refine zast hF hSt hH 24 (by decide) rfl (zE_24 _) (x := x1) q47 dX6_line_47 (fun H locs hH => ?_)
          refine lv_aload_n hx hb dX6_line_48 rfl (lv_at hl 0 rfl) ?_
          refine zget (v := .ref (G.1 25)) hF hSt hH 21 (by decide) rfl (zE_21 _ _ _) (C := RX6) (T := TX6) (N := 31) rfl znX6_line_X6 7 (by decide) (List.mem_of_getElem? (i := 3) rfl) rfl dX6_line_49 ?_
          refine lv_aload_n hx hb dX6_line_52 rfl (lv_at hl 0 rfl) ?_
          refine zget (v := .int ((zsi M 24 ((M.1 21 2)).toNatClampNeg x1).1 21 2)) hF hSt hH 21 (by decide) rfl (zE_21 _ _ _) (C := RX6) (T := TX6) (N := 31) rfl znX6_line_X6 2 (by decide) (List.mem_of_getElem? (i := 1) rfl) rfl dX6_line_53 ?_
          refine lv_iload_n hx hb dX6_line_56 rfl (lv_at hl 2 rfl) ?_
          obtain ⟨q57, h⟩ := h
          refine zast hF hSt hH 25 (by decide) rfl (zE_25 _) (x := x2) q57 dX6_line_57 (fun H locs hH => ?_)
          refine lv_aload_n hx hb dX6_line_58 rfl (lv_at hl 0 rfl) ?_
          refine lv_dup hx hb dX6_line_59 rfl ?_
          refine zget (v := .int ((zsi (zsi M 24 ((M.1 21 2)).toNatClampNeg x1) 25 (((zsi M 24 ((M.1 21 2)).toNatClampNeg x1).1 21 2)).toNatClampNeg x2).1 21 2)) hF hSt hH 21 (by decide) rfl (zE_21 _ _ _) (C := RX6) (T := TX6) (N := 31) rfl znX6_line_X6 2 (by decide) (List.mem_of_getElem? (i := 1) rfl) rfl dX6_line_60 ?_
          refine lv_iconst (v := (1 : Int32)) hx hb dX6_line_63 (by decide) ?_
          refine lv_iadd hx hb dX6_line_64 ?_
          refine zput hF hSt hH 21 (by decide) rfl (zE_21 _ _ _) (C := RX6) (T := TX6) (N := 31) rfl znX6_line_X6 tyX6 tyX6_ok nmX6 2 (by decide) (List.mem_of_getElem? (i := 1) rfl) rfl (by decide +kernel) (Nat.le_of_ble_eq_true rfl) (x := (((zsi (zsi M 24 ((M.1 21 2)).toNatClampNeg x1) 25 (((zsi M 24 ((M.1 21 2)).toNatClampNeg x1).1 21 2)).toNatClampNeg x2).1 21 2) + (1 : Int32))) rfl dX6_line_65 (fun H locs hH => ?_)
          refine lv_aload_n hx hb dX6_line_68 rfl (lv_at hl 0 rfl) ?_
          refine zget (v := .int ((zsi (zsi (zsi M 24 ((M.1 21 2)).toNatClampNeg x1) 25 (((zsi M 24 ((M.1 21 2)).toNatClampNeg x1).1 21 2)).toNatClampNeg x2) 21 2 (((zsi (zsi M 24 ((M.1 21 2)).toNatClampNeg x1) 25 (((zsi M 24 ((M.1 21 2)).toNatClampNeg x1).1 21 2)).toNatClampNeg x2).1 21 2) + (1 : Int32))).1 21 2)) hF hSt hH 21 (by decide) rfl (zE_21 _ _ _) (C := RX6) (T := TX6) (N := 31) rfl znX6_line_X6 2 (by decide) (List.mem_of_getElem? (i := 1) rfl) rfl dX6_line_69 ?_
          refine lv_iconst (v := (1 : Int32)) hx hb dX6_line_72 (by decide) ?_
          refine lv_isub hx hb dX6_line_73 ?_
          exact hret _ _ _ _ _ _ dX6_line_74 h hH
        · have h := h.2 q32
          refine lv_bipush (v := (-4 : Int32)) hx hb dX6_line_35 (by decide) ?_
          exact hret _ _ _ _ _ _ dX6_line_37 h hH
      · have h := h.2 q20
        refine lv_bipush (v := (-2 : Int32)) hx hb dX6_line_23 (by decide) ?_
        exact hret _ _ _ _ _ _ dX6_line_25 h hH
    · have h := h.2 q13
      exact wX6_line_b16 hF hSt hret M H locs ls hH (lv_sub hl [] rfl) h
set_option maxRecDepth 100000 in
theorem kX6_line (l : Launch) (G : zG) (M O : zM) (x1 : Int32) (x2 : Int32) (post : Int32 → zM → Prop) (h : pX6_line M x1 x2 post) : Met l yX6_line wsX6_line ({ frames := 2, cells := 0, slots := 0, locals := 43 } : Room) (zPc G false M O [.ref (G.1 21), .int x1, .int x2]) (va_Qi post (zB G false O) (zAA G)) 0 0 (zAA G) :=
  zmet_i (by decide) rfl (Nat.le_of_ble_eq_true rfl) (fun hF hSt hret H locs ls hH hl => wX6_line hF hSt hret x1 x2 H locs ls hH hl h)
end
theorem znX6_pieces_X6 : ∀ w ∈ wsX60, w ∈ wsX6_pieces := fun _ h => List.mem_cons_of_mem _ (List.mem_append_right _ h)
theorem zdX6_pieces : yX6_pieces.cls ≠ "java/lang/invoke/MethodHandle" ∧ yX6_pieces.cls ≠ "java/lang/invoke/VarHandle" ∧ (parseMethodDescriptor yX6_pieces.desc).map (fun d => d.parameters.length) = some 1 := by decide +kernel
-- MixingRelaysModel pieces(I)I
section
variable {p : Program} {l : Launch} {e : Env} {s : State} {m : MethodId} {args : Array Value} {below : List Frame} {meth : Method} {c : Code} {Q : State → Prop} {G : zG} {O : zM}
def pX6_pieces_b34 (post : Int32 → zM → Prop) (ag34 : Int32 → Int32 → zM → Prop) (x2 : Int32) (x3 : Int32) (M : zM) : Prop :=
  ((4 : Int32) ≤ x3 → post x2 M) ∧ (¬ ((4 : Int32) ≤ x3) → vp_in x3 4 ∧ ag34 x2 (x3 + (1 : Int32)) (zsj M 22 x3.toNatClampNeg (0 : Int64)))
set_option maxHeartbeats 4000000 in
set_option maxRecDepth 100000 in
theorem wX6_pieces_b34 {post : Int32 → zM → Prop} {ag34 : Int32 → Int32 → zM → Prop} (hF : CallFix p m c cX6_pieces 4 s args wsX6_pieces RX6) (hSt : zSt G s) (hret : zRi p l e ({ frames := 1, cells := 0, slots := 0, locals := 22 } : Room) s m args below meth c Q cX6_pieces G false O post) (hag34 : ∀ (x2 : Int32) (x3 : Int32) (M : zM) (H : Heap) (locs : List Loc) (ls : Array Slot), ag34 x2 x3 M → zH G false s H locs M O → lv_has ls 4 [(0, .ref (G.1 21)), (2, .int x2), (3, .int x3)] → W p l e ({ frames := 1, cells := 0, slots := 0, locals := 22 } : Room) s m args below meth c H locs 0 0 Q (F0 m 34 ls [])) (x2 : Int32) (x3 : Int32) (M : zM) (H : Heap) (locs : List Loc) (ls : Array Slot) (hH : zH G false s H locs M O) (hl : lv_has ls 4 [(0, .ref (G.1 21)), (2, .int x2), (3, .int x3)]) (h : pX6_pieces_b34 post ag34 x2 x3 M) : W p l e ({ frames := 1, cells := 0, slots := 0, locals := 22 } : Room) s m args below meth c H locs 0 0 Q (F0 m 34 ls []) := by
  obtain ⟨hx, hb, hml, hown, hts⟩ := id hF
  unfold pX6_pieces_b34 at h
  refine lv_iload_n hx hb dX6_pieces_34 rfl (lv_at hl 2 rfl) ?_
  refine lv_iconst (v := (4 : Int32)) hx hb dX6_pieces_35 (by decide) ?_
  refine lv_icmp_ge (tgt := 52) hx hb dX6_pieces_36 (by decide) (fun q36 => ?_) (fun q36 => ?_)
  · have h := h.1 q36
    refine lv_iload_n hx hb dX6_pieces_52 rfl (lv_at hl 1 rfl) ?_
    exact hret _ _ _ _ _ _ dX6_pieces_53 h hH
  · have h := h.2 q36
    refine lv_aload_n hx hb dX6_pieces_39 rfl (lv_at hl 0 rfl) ?_
    refine zget (v := .ref (G.1 22)) hF hSt hH 21 (by decide) rfl (zE_21 _ _ _) (C := RX6) (T := TX6) (N := 31) rfl znX6_pieces_X6 4 (by decide) (List.mem_of_getElem? (i := 3) rfl) rfl dX6_pieces_40 ?_
    refine lv_iload_n hx hb dX6_pieces_43 rfl (lv_at hl 2 rfl) ?_
    refine lv_lconst (v := (0 : Int64)) hx hb dX6_pieces_44 (by decide) ?_
    obtain ⟨q45, h⟩ := h
    refine zlast hF hSt hH 22 (by decide) rfl (zE_22 _) (x := (0 : Int64)) q45 dX6_pieces_45 (fun H locs hH => ?_)
    refine lv_iinc (v := (x3 + (1 : Int32))) (lv' := [(3, .int (x3 + (1 : Int32))), (0, .ref (G.1 21)), (2, .int x2)]) hx hb dX6_pieces_46 hl (k := 2) rfl rfl (by decide) rfl (fun ls hl => ?_)
    refine lv_goto (tgt := 34) hx hb dX6_pieces_49 (by decide) ?_
    exact hag34 x2 (x3 + (1 : Int32)) (zsj M 22 x3.toNatClampNeg (0 : Int64)) H locs ls h hH (lv_sub hl [1, 2, 0] rfl)
def pX6_pieces_L34 (post : Int32 → zM → Prop) (x2 : Int32) (x3 : Int32) (M : zM) : Prop :=
  ∃ I : Nat → Int32 → Int32 → zM → Prop, (∃ n, I n x2 x3 M) ∧ ∀ n x2 x3 M, I n x2 x3 M → pX6_pieces_b34 post (fun x2 x3 M => ∃ k, k < n ∧ I k x2 x3 M) x2 x3 M
set_option maxHeartbeats 4000000 in
theorem wX6_pieces_L34 {post : Int32 → zM → Prop}  (hF : CallFix p m c cX6_pieces 4 s args wsX6_pieces RX6) (hSt : zSt G s) (hret : zRi p l e ({ frames := 1, cells := 0, slots := 0, locals := 22 } : Room) s m args below meth c Q cX6_pieces G false O post) (x2 : Int32) (x3 : Int32) (M : zM) (H : Heap) (locs : List Loc) (ls : Array Slot) (hH : zH G false s H locs M O) (hl : lv_has ls 4 [(0, .ref (G.1 21)), (2, .int x2), (3, .int x3)]) (h : pX6_pieces_L34 post x2 x3 M) : W p l e ({ frames := 1, cells := 0, slots := 0, locals := 22 } : Room) s m args below meth c H locs 0 0 Q (F0 m 34 ls []) := by
  obtain ⟨I, ⟨n, hI⟩, hs⟩ := h
  have key : ∀ (n : Nat) (x2 : Int32) (x3 : Int32) (M : zM) (H : Heap) (locs : List Loc) (ls : Array Slot), I n x2 x3 M → zH G false s H locs M O → lv_has ls 4 [(0, .ref (G.1 21)), (2, .int x2), (3, .int x3)] → W p l e ({ frames := 1, cells := 0, slots := 0, locals := 22 } : Room) s m args below meth c H locs 0 0 Q (F0 m 34 ls []) := by
    intro n
    induction n using Nat.strongRecOn with
    | _ n ih =>
      intro x2 x3 M H locs ls hI hH hl
      exact wX6_pieces_b34 hF hSt hret (fun x2 x3 M H locs ls h hH hl => by obtain ⟨k, hk, hI⟩ := h; exact ih k hk x2 x3 M H locs ls hI hH hl) x2 x3 M H locs ls hH hl (hs n x2 x3 M hI)
  exact key n x2 x3 M H locs ls hI hH hl
def pX6_pieces (M : zM) (x1 : Int32) (post : Int32 → zM → Prop) : Prop :=
  pX6_in x1 (1 : Int32) (4 : Int32) (fun r3 => (¬ (r3 = 0) → ((M.1 21 2) ≤ 0 → pX6_pieces_L34 post (M.1 21 3) (0 : Int32) (zsi M 21 3 x1)) ∧ (¬ ((M.1 21 2) ≤ 0) → post (-3 : Int32) M)) ∧ (r3 = 0 → post (-2 : Int32) M))
set_option maxHeartbeats 4000000 in
set_option maxRecDepth 100000 in
theorem wX6_pieces {M : zM} {post : Int32 → zM → Prop} (hF : CallFix p m c cX6_pieces 4 s args wsX6_pieces RX6) (hSt : zSt G s) (hret : zRi p l e ({ frames := 1, cells := 0, slots := 0, locals := 22 } : Room) s m args below meth c Q cX6_pieces G false O post) (x1 : Int32) (H : Heap) (locs : List Loc) (ls : Array Slot) (hH : zH G false s H locs M O) (hl : lv_has ls 4 [(0, .ref (G.1 21)), (1, .int x1)]) (h : pX6_pieces M x1 post) : W p l e ({ frames := 1, cells := 0, slots := 0, locals := 22 } : Room) s m args below meth c H locs 0 0 Q (F0 m 0 ls []) := by
  obtain ⟨hx, hb, hml, hown, hts⟩ := id hF
  unfold pX6_pieces at h
  refine lv_iload_n hx hb dX6_pieces_0 rfl (lv_at hl 1 rfl) ?_
  refine lv_iconst (v := (1 : Int32)) hx hb dX6_pieces_1 (by decide) ?_
  refine lv_iconst (v := (4 : Int32)) hx hb dX6_pieces_2 (by decide) ?_
  refine zcalliP hH (va_runS (As := [.int x1, .int (1 : Int32), .int (4 : Int32)]) (rest := []) hF (kX6_in l G M O x1 (1 : Int32) (4 : Int32) _ h) (va_cwS 3 hts gX6_pieces_X6_in rfl rfl rfl zdX6_in ⟨Nat.le_of_ble_eq_true rfl, Nat.le_of_ble_eq_true rfl⟩) (zpreS hSt hH [.int x1, .int (1 : Int32), .int (4 : Int32)]) rfl rfl hl.1 rfl (lv_room (Nat.le_of_ble_eq_true rfl)) dX6_pieces_3 ⟨Nat.zero_le _, Nat.zero_le _⟩) (fun r3 H locs h hH => ?_)
  refine lv_if_ne (tgt := 12) hx hb dX6_pieces_6 (by decide) (fun q6 => ?_) (fun q6 => ?_)
  · have h := h.1 q6
    refine lv_aload_n hx hb dX6_pieces_12 rfl (lv_at hl 0 rfl) ?_
    refine zget (v := .int (M.1 21 2)) hF hSt hH 21 (by decide) rfl (zE_21 _ _ _) (C := RX6) (T := TX6) (N := 31) rfl znX6_pieces_X6 2 (by decide) (List.mem_of_getElem? (i := 1) rfl) rfl dX6_pieces_13 ?_
    refine lv_if_le (tgt := 22) hx hb dX6_pieces_16 (by decide) (fun q16 => ?_) (fun q16 => ?_)
    · have h := h.1 q16
      refine lv_aload_n hx hb dX6_pieces_22 rfl (lv_at hl 0 rfl) ?_
      refine zget (v := .int (M.1 21 3)) hF hSt hH 21 (by decide) rfl (zE_21 _ _ _) (C := RX6) (T := TX6) (N := 31) rfl znX6_pieces_X6 3 (by decide) (List.mem_of_getElem? (i := 2) rfl) rfl dX6_pieces_23 ?_
      refine lv_istore_n (lv' := [(2, .int (M.1 21 3)), (0, .ref (G.1 21)), (1, .int x1)]) hx hb dX6_pieces_26 rfl hl (by decide) rfl (fun ls hl => ?_)
      refine lv_aload_n hx hb dX6_pieces_27 rfl (lv_at hl 1 rfl) ?_
      refine lv_iload_n hx hb dX6_pieces_28 rfl (lv_at hl 2 rfl) ?_
      refine zput hF hSt hH 21 (by decide) rfl (zE_21 _ _ _) (C := RX6) (T := TX6) (N := 31) rfl znX6_pieces_X6 tyX6 tyX6_ok nmX6 3 (by decide) (List.mem_of_getElem? (i := 2) rfl) rfl (by decide +kernel) (Nat.le_of_ble_eq_true rfl) (x := x1) rfl dX6_pieces_29 (fun H locs hH => ?_)
      refine lv_iconst (v := (0 : Int32)) hx hb dX6_pieces_32 (by decide) ?_
      refine lv_istore_n (lv' := [(3, .int (0 : Int32)), (2, .int (M.1 21 3)), (0, .ref (G.1 21)), (1, .int x1)]) hx hb dX6_pieces_33 rfl hl (by decide) rfl (fun ls hl => ?_)
      exact wX6_pieces_L34 hF hSt hret (M.1 21 3) (0 : Int32) (zsi M 21 3 x1) H locs ls hH (lv_sub hl [2, 1, 0] rfl) h
    · have h := h.2 q16
      refine lv_bipush (v := (-3 : Int32)) hx hb dX6_pieces_19 (by decide) ?_
      exact hret _ _ _ _ _ _ dX6_pieces_21 h hH
  · have h := h.2 q6
    refine lv_bipush (v := (-2 : Int32)) hx hb dX6_pieces_9 (by decide) ?_
    exact hret _ _ _ _ _ _ dX6_pieces_11 h hH
set_option maxRecDepth 100000 in
theorem kX6_pieces (l : Launch) (G : zG) (M O : zM) (x1 : Int32) (post : Int32 → zM → Prop) (h : pX6_pieces M x1 post) : Met l yX6_pieces wsX6_pieces ({ frames := 1, cells := 0, slots := 0, locals := 22 } : Room) (zPc G false M O [.ref (G.1 21), .int x1]) (va_Qi post (zB G false O) (zAA G)) 0 0 (zAA G) :=
  zmet_i (by decide) rfl (Nat.le_of_ble_eq_true rfl) (fun hF hSt hret H locs ls hH hl => wX6_pieces hF hSt hret x1 H locs ls hH hl h)
end
theorem znX6_piece_X6 : ∀ w ∈ wsX60, w ∈ wsX6_piece := fun _ h => List.mem_cons_of_mem _ (List.mem_append_right _ h)
theorem zdX6_piece : yX6_piece.cls ≠ "java/lang/invoke/MethodHandle" ∧ yX6_piece.cls ≠ "java/lang/invoke/VarHandle" ∧ (parseMethodDescriptor yX6_piece.desc).map (fun d => d.parameters.length) = some 2 := by decide +kernel
-- MixingRelaysModel piece(IJ)I
section
variable {p : Program} {l : Launch} {e : Env} {s : State} {m : MethodId} {args : Array Value} {below : List Frame} {meth : Method} {c : Code} {Q : State → Prop} {G : zG} {O : zM}
def pX6_piece (M : zM) (x1 : Int32) (x2 : Int64) (post : Int32 → zM → Prop) : Prop :=
  pX6_in x1 (0 : Int32) ((M.1 21 3) - (1 : Int32)) (fun r8 => (¬ (r8 = 0) → vp_in x1 4 ∧ post (0 : Int32) (zsj M 22 x1.toNatClampNeg x2)) ∧ (r8 = 0 → post (-1 : Int32) M))
set_option maxHeartbeats 4000000 in
set_option maxRecDepth 100000 in
theorem wX6_piece {M : zM} {post : Int32 → zM → Prop} (hF : CallFix p m c cX6_piece 4 s args wsX6_piece RX6) (hSt : zSt G s) (hret : zRi p l e ({ frames := 1, cells := 0, slots := 0, locals := 22 } : Room) s m args below meth c Q cX6_piece G false O post) (x1 : Int32) (x2 : Int64) (H : Heap) (locs : List Loc) (ls : Array Slot) (hH : zH G false s H locs M O) (hl : lv_has ls 4 [(0, .ref (G.1 21)), (1, .int x1), (2, .long x2)]) (h : pX6_piece M x1 x2 post) : W p l e ({ frames := 1, cells := 0, slots := 0, locals := 22 } : Room) s m args below meth c H locs 0 0 Q (F0 m 0 ls []) := by
  obtain ⟨hx, hb, hml, hown, hts⟩ := id hF
  unfold pX6_piece at h
  refine lv_iload_n hx hb dX6_piece_0 rfl (lv_at hl 1 rfl) ?_
  refine lv_iconst (v := (0 : Int32)) hx hb dX6_piece_1 (by decide) ?_
  refine lv_aload_n hx hb dX6_piece_2 rfl (lv_at hl 0 rfl) ?_
  refine zget (v := .int (M.1 21 3)) hF hSt hH 21 (by decide) rfl (zE_21 _ _ _) (C := RX6) (T := TX6) (N := 31) rfl znX6_piece_X6 3 (by decide) (List.mem_of_getElem? (i := 1) rfl) rfl dX6_piece_3 ?_
  refine lv_iconst (v := (1 : Int32)) hx hb dX6_piece_6 (by decide) ?_
  refine lv_isub hx hb dX6_piece_7 ?_
  refine zcalliP hH (va_runS (As := [.int x1, .int (0 : Int32), .int ((M.1 21 3) - (1 : Int32))]) (rest := []) hF (kX6_in l G M O x1 (0 : Int32) ((M.1 21 3) - (1 : Int32)) _ h) (va_cwS 3 hts gX6_piece_X6_in rfl rfl rfl zdX6_in ⟨Nat.le_of_ble_eq_true rfl, Nat.le_of_ble_eq_true rfl⟩) (zpreS hSt hH [.int x1, .int (0 : Int32), .int ((M.1 21 3) - (1 : Int32))]) rfl rfl hl.1 rfl (lv_room (Nat.le_of_ble_eq_true rfl)) dX6_piece_8 ⟨Nat.zero_le _, Nat.zero_le _⟩) (fun r8 H locs h hH => ?_)
  refine lv_if_ne (tgt := 16) hx hb dX6_piece_11 (by decide) (fun q11 => ?_) (fun q11 => ?_)
  · have h := h.1 q11
    refine lv_aload_n hx hb dX6_piece_16 rfl (lv_at hl 0 rfl) ?_
    refine zget (v := .ref (G.1 22)) hF hSt hH 21 (by decide) rfl (zE_21 _ _ _) (C := RX6) (T := TX6) (N := 31) rfl znX6_piece_X6 4 (by decide) (List.mem_of_getElem? (i := 2) rfl) rfl dX6_piece_17 ?_
    refine lv_iload_n hx hb dX6_piece_20 rfl (lv_at hl 1 rfl) ?_
    refine lv_lload_n hx hb dX6_piece_21 rfl (lv_at hl 2 rfl) ?_
    obtain ⟨q22, h⟩ := h
    refine zlast hF hSt hH 22 (by decide) rfl (zE_22 _) (x := x2) q22 dX6_piece_22 (fun H locs hH => ?_)
    refine lv_iconst (v := (0 : Int32)) hx hb dX6_piece_23 (by decide) ?_
    exact hret _ _ _ _ _ _ dX6_piece_24 h hH
  · have h := h.2 q11
    refine lv_iconst (v := (-1 : Int32)) hx hb dX6_piece_14 (by decide) ?_
    exact hret _ _ _ _ _ _ dX6_piece_15 h hH
set_option maxRecDepth 100000 in
theorem kX6_piece (l : Launch) (G : zG) (M O : zM) (x1 : Int32) (x2 : Int64) (post : Int32 → zM → Prop) (h : pX6_piece M x1 x2 post) : Met l yX6_piece wsX6_piece ({ frames := 1, cells := 0, slots := 0, locals := 22 } : Room) (zPc G false M O [.ref (G.1 21), .int x1, .long x2]) (va_Qi post (zB G false O) (zAA G)) 0 0 (zAA G) :=
  zmet_i (by decide) rfl (Nat.le_of_ble_eq_true rfl) (fun hF hSt hret H locs ls hH hl => wX6_piece hF hSt hret x1 x2 H locs ls hH hl h)
end
theorem znX6_end_X6 : ∀ w ∈ wsX60, w ∈ wsX6_end := fun _ h => List.mem_cons_of_mem _ (List.mem_append_right _ h)
theorem zdX6_end : yX6_end.cls ≠ "java/lang/invoke/MethodHandle" ∧ yX6_end.cls ≠ "java/lang/invoke/VarHandle" ∧ (parseMethodDescriptor yX6_end.desc).map (fun d => d.parameters.length) = some 2 := by decide +kernel
-- MixingRelaysModel end(II)I
section
variable {p : Program} {l : Launch} {e : Env} {s : State} {m : MethodId} {args : Array Value} {below : List Frame} {meth : Method} {c : Code} {Q : State → Prop} {G : zG} {O : zM}
def pX6_end_b23 (post : Int32 → zM → Prop) (M : zM) : Prop :=
  post (-2 : Int32) M
set_option maxHeartbeats 4000000 in
set_option maxRecDepth 100000 in
theorem wX6_end_b23 {post : Int32 → zM → Prop}  (hF : CallFix p m c cX6_end 4 s args wsX6_end RX6) (hSt : zSt G s) (hret : zRi p l e ({ frames := 2, cells := 0, slots := 0, locals := 43 } : Room) s m args below meth c Q cX6_end G false O post) (M : zM) (H : Heap) (locs : List Loc) (ls : Array Slot) (hH : zH G false s H locs M O) (hl : lv_has ls 4 []) (h : pX6_end_b23 post M) : W p l e ({ frames := 2, cells := 0, slots := 0, locals := 43 } : Room) s m args below meth c H locs 0 0 Q (F0 m 23 ls []) := by
  obtain ⟨hx, hb, hml, hown, hts⟩ := id hF
  unfold pX6_end_b23 at h
  refine lv_bipush (v := (-2 : Int32)) hx hb dX6_end_23 (by decide) ?_
  exact hret _ _ _ _ _ _ dX6_end_25 h hH
def pX6_end_b56 (post : Int32 → zM → Prop) (x3 : Int32) (t0 : Int32) (t1 : Int32) (M : zM) : Prop :=
  vp_in t1 12 ∧ post x3 (zsi M 23 t1.toNatClampNeg (vp_nar .boolean t0))
set_option maxHeartbeats 4000000 in
set_option maxRecDepth 100000 in
theorem wX6_end_b56 {post : Int32 → zM → Prop}  (hF : CallFix p m c cX6_end 4 s args wsX6_end RX6) (hSt : zSt G s) (hret : zRi p l e ({ frames := 2, cells := 0, slots := 0, locals := 43 } : Room) s m args below meth c Q cX6_end G false O post) (x3 : Int32) (t0 : Int32) (t1 : Int32) (M : zM) (H : Heap) (locs : List Loc) (ls : Array Slot) (hH : zH G false s H locs M O) (hl : lv_has ls 4 [(3, .int x3)]) (h : pX6_end_b56 post x3 t0 t1 M) : W p l e ({ frames := 2, cells := 0, slots := 0, locals := 43 } : Room) s m args below meth c H locs 0 0 Q (F0 m 56 ls [.int t0, .int t1, .ref (G.1 23)]) := by
  obtain ⟨hx, hb, hml, hown, hts⟩ := id hF
  unfold pX6_end_b56 at h
  obtain ⟨q56, h⟩ := h
  refine zzast hF hSt hH 23 (by decide) rfl (zE_23 _) (x := t0) q56 dX6_end_56 (fun H locs hH => ?_)
  refine lv_iload_n hx hb dX6_end_57 rfl (lv_at hl 0 rfl) ?_
  exact hret _ _ _ _ _ _ dX6_end_58 h hH
def pX6_end_b40 (post : Int32 → zM → Prop) (x1 : Int32) (x2 : Int32) (t0 : Int32) (M : zM) : Prop :=
  (¬ (x2 = (1 : Int32)) → pX6_end_b56 post t0 (0 : Int32) x1 M) ∧ (x2 = (1 : Int32) → pX6_end_b56 post t0 (1 : Int32) x1 M)
set_option maxHeartbeats 4000000 in
set_option maxRecDepth 100000 in
theorem wX6_end_b40 {post : Int32 → zM → Prop}  (hF : CallFix p m c cX6_end 4 s args wsX6_end RX6) (hSt : zSt G s) (hret : zRi p l e ({ frames := 2, cells := 0, slots := 0, locals := 43 } : Room) s m args below meth c Q cX6_end G false O post) (x1 : Int32) (x2 : Int32) (t0 : Int32) (M : zM) (H : Heap) (locs : List Loc) (ls : Array Slot) (hH : zH G false s H locs M O) (hl : lv_has ls 4 [(0, .ref (G.1 21)), (1, .int x1), (2, .int x2)]) (h : pX6_end_b40 post x1 x2 t0 M) : W p l e ({ frames := 2, cells := 0, slots := 0, locals := 43 } : Room) s m args below meth c H locs 0 0 Q (F0 m 40 ls [.int t0]) := by
  obtain ⟨hx, hb, hml, hown, hts⟩ := id hF
  unfold pX6_end_b40 at h
  refine lv_istore_n (lv' := [(3, .int t0), (0, .ref (G.1 21)), (1, .int x1), (2, .int x2)]) hx hb dX6_end_40 rfl hl (by decide) rfl (fun ls hl => ?_)
  refine lv_aload_n hx hb dX6_end_41 rfl (lv_at hl 1 rfl) ?_
  refine zget (v := .ref (G.1 23)) hF hSt hH 21 (by decide) rfl (zE_21 _ _ _) (C := RX6) (T := TX6) (N := 31) rfl znX6_end_X6 5 (by decide) (List.mem_of_getElem? (i := 1) rfl) rfl dX6_end_42 ?_
  refine lv_iload_n hx hb dX6_end_45 rfl (lv_at hl 2 rfl) ?_
  refine lv_iload_n hx hb dX6_end_46 rfl (lv_at hl 3 rfl) ?_
  refine lv_iconst (v := (1 : Int32)) hx hb dX6_end_47 (by decide) ?_
  refine lv_icmp_ne (tgt := 55) hx hb dX6_end_48 (by decide) (fun q48 => ?_) (fun q48 => ?_)
  · have h := h.1 q48
    refine lv_iconst (v := (0 : Int32)) hx hb dX6_end_55 (by decide) ?_
    exact wX6_end_b56 hF hSt hret t0 (0 : Int32) x1 M H locs ls hH (lv_sub hl [0] rfl) h
  · have h := h.2 q48
    refine lv_iconst (v := (1 : Int32)) hx hb dX6_end_51 (by decide) ?_
    refine lv_goto (tgt := 56) hx hb dX6_end_52 (by decide) ?_
    exact wX6_end_b56 hF hSt hret t0 (1 : Int32) x1 M H locs ls hH (lv_sub hl [0] rfl) h
def pX6_end (M : zM) (x1 : Int32) (x2 : Int32) (post : Int32 → zM → Prop) : Prop :=
  pX6_isRelay M x1 (fun r2 => (¬ (r2 = 0) → pX6_in x2 (0 : Int32) (1 : Int32) (fun r13 => (r13 = 0 → pX6_end_b23 post M) ∧ (¬ (r13 = 0) → (¬ (x1 = 0) → vp_in x1 12 ∧ ((M.1 23 x1.toNatClampNeg) = 0 → pX6_end_b40 post x1 x2 (0 : Int32) M) ∧ (¬ ((M.1 23 x1.toNatClampNeg) = 0) → pX6_end_b40 post x1 x2 (1 : Int32) M)) ∧ (x1 = 0 → pX6_end_b23 post M)))) ∧ (r2 = 0 → post (-1 : Int32) M))
set_option maxHeartbeats 4000000 in
set_option maxRecDepth 100000 in
theorem wX6_end {M : zM} {post : Int32 → zM → Prop} (hF : CallFix p m c cX6_end 4 s args wsX6_end RX6) (hSt : zSt G s) (hret : zRi p l e ({ frames := 2, cells := 0, slots := 0, locals := 43 } : Room) s m args below meth c Q cX6_end G false O post) (x1 : Int32) (x2 : Int32) (H : Heap) (locs : List Loc) (ls : Array Slot) (hH : zH G false s H locs M O) (hl : lv_has ls 4 [(0, .ref (G.1 21)), (1, .int x1), (2, .int x2)]) (h : pX6_end M x1 x2 post) : W p l e ({ frames := 2, cells := 0, slots := 0, locals := 43 } : Room) s m args below meth c H locs 0 0 Q (F0 m 0 ls []) := by
  obtain ⟨hx, hb, hml, hown, hts⟩ := id hF
  unfold pX6_end at h
  refine lv_aload_n hx hb dX6_end_0 rfl (lv_at hl 0 rfl) ?_
  refine lv_iload_n hx hb dX6_end_1 rfl (lv_at hl 1 rfl) ?_
  refine zcalliP hH (va_runV (As := [.int x1]) (rest := []) hF (kX6_isRelay l G M O x1 _ h) (cwV 1 hts gX6_end_X6_isRelay rfl rfl rfl ⟨rfl, zdX6_isRelay⟩ ⟨Nat.le_of_ble_eq_true rfl, Nat.le_of_ble_eq_true rfl⟩) (zpreV hSt hH 21 (by decide) rfl (zE_21 _ _ _) (q := (RX6, TX6, 31)) rfl [.int x1]) rfl rfl hl.1 rfl (lv_room (Nat.le_of_ble_eq_true rfl)) dX6_end_2 ⟨Nat.zero_le _, Nat.zero_le _⟩) (fun r2 H locs h hH => ?_)
  refine lv_if_ne (tgt := 10) hx hb dX6_end_5 (by decide) (fun q5 => ?_) (fun q5 => ?_)
  · have h := h.1 q5
    refine lv_iload_n hx hb dX6_end_10 rfl (lv_at hl 2 rfl) ?_
    refine lv_iconst (v := (0 : Int32)) hx hb dX6_end_11 (by decide) ?_
    refine lv_iconst (v := (1 : Int32)) hx hb dX6_end_12 (by decide) ?_
    refine zcalliP hH (va_runS (As := [.int x2, .int (0 : Int32), .int (1 : Int32)]) (rest := []) hF (kX6_in l G M O x2 (0 : Int32) (1 : Int32) _ h) (va_cwS 3 hts gX6_end_X6_in rfl rfl rfl zdX6_in ⟨Nat.le_of_ble_eq_true rfl, Nat.le_of_ble_eq_true rfl⟩) (zpreS hSt hH [.int x2, .int (0 : Int32), .int (1 : Int32)]) rfl rfl hl.1 rfl (lv_room (Nat.le_of_ble_eq_true rfl)) dX6_end_13 ⟨Nat.zero_le _, Nat.zero_le _⟩) (fun r13 H locs h hH => ?_)
    refine lv_if_eq (tgt := 23) hx hb dX6_end_16 (by decide) (fun q16 => ?_) (fun q16 => ?_)
    · have h := h.1 q16
      exact wX6_end_b23 hF hSt hret M H locs ls hH (lv_sub hl [] rfl) h
    · have h := h.2 q16
      refine lv_iload_n hx hb dX6_end_19 rfl (lv_at hl 1 rfl) ?_
      refine lv_if_ne (tgt := 26) hx hb dX6_end_20 (by decide) (fun q20 => ?_) (fun q20 => ?_)
      · have h := h.1 q20
        refine lv_aload_n hx hb dX6_end_26 rfl (lv_at hl 0 rfl) ?_
        refine zget (v := .ref (G.1 23)) hF hSt hH 21 (by decide) rfl (zE_21 _ _ _) (C := RX6) (T := TX6) (N := 31) rfl znX6_end_X6 5 (by decide) (List.mem_of_getElem? (i := 1) rfl) rfl dX6_end_27 ?_
        refine lv_iload_n hx hb dX6_end_30 rfl (lv_at hl 1 rfl) ?_
        obtain ⟨q31, h⟩ := h
        refine zzald hF hSt hH 23 (by decide) rfl (zE_23 _ _ _) q31 dX6_end_31 ?_
        refine lv_if_eq (tgt := 39) hx hb dX6_end_32 (by decide) (fun q32 => ?_) (fun q32 => ?_)
        · have h := h.1 q32
          refine lv_iconst (v := (0 : Int32)) hx hb dX6_end_39 (by decide) ?_
          exact wX6_end_b40 hF hSt hret x1 x2 (0 : Int32) M H locs ls hH (lv_sub hl [0, 1, 2] rfl) h
        · have h := h.2 q32
          refine lv_iconst (v := (1 : Int32)) hx hb dX6_end_35 (by decide) ?_
          refine lv_goto (tgt := 40) hx hb dX6_end_36 (by decide) ?_
          exact wX6_end_b40 hF hSt hret x1 x2 (1 : Int32) M H locs ls hH (lv_sub hl [0, 1, 2] rfl) h
      · have h := h.2 q20
        exact wX6_end_b23 hF hSt hret M H locs ls hH (lv_sub hl [] rfl) h
  · have h := h.2 q5
    refine lv_iconst (v := (-1 : Int32)) hx hb dX6_end_8 (by decide) ?_
    exact hret _ _ _ _ _ _ dX6_end_9 h hH
set_option maxRecDepth 100000 in
theorem kX6_end (l : Launch) (G : zG) (M O : zM) (x1 : Int32) (x2 : Int32) (post : Int32 → zM → Prop) (h : pX6_end M x1 x2 post) : Met l yX6_end wsX6_end ({ frames := 2, cells := 0, slots := 0, locals := 43 } : Room) (zPc G false M O [.ref (G.1 21), .int x1, .int x2]) (va_Qi post (zB G false O) (zAA G)) 0 0 (zAA G) :=
  zmet_i (by decide) rfl (Nat.le_of_ble_eq_true rfl) (fun hF hSt hret H locs ls hH hl => wX6_end hF hSt hret x1 x2 H locs ls hH hl h)
end
theorem znX6_isLine_X6 : ∀ w ∈ wsX60, w ∈ wsX6_isLine := fun _ h => List.mem_cons_of_mem _ (List.mem_append_right _ h)
theorem zdX6_isLine : yX6_isLine.cls ≠ "java/lang/invoke/MethodHandle" ∧ yX6_isLine.cls ≠ "java/lang/invoke/VarHandle" ∧ (parseMethodDescriptor yX6_isLine.desc).map (fun d => d.parameters.length) = some 1 := by decide +kernel
-- MixingRelaysModel isLine(I)Z
section
variable {p : Program} {l : Launch} {e : Env} {s : State} {m : MethodId} {args : Array Value} {below : List Frame} {meth : Method} {c : Code} {Q : State → Prop} {G : zG} {O : zM}
def pX6_isLine (M : zM) (x1 : Int32) (post : Int32 → Prop) : Prop :=
  pX6_in x1 (0 : Int32) ((M.1 21 2) - (1 : Int32)) (fun r8 => (r8 = 0 ∨ r8 = 1) ∧ post r8)
set_option maxHeartbeats 4000000 in
set_option maxRecDepth 100000 in
theorem wX6_isLine {M : zM} {post : Int32 → Prop} (hF : CallFix p m c cX6_isLine 2 s args wsX6_isLine RX6) (hSt : zSt G s) (hret : zRz p l e ({ frames := 1, cells := 0, slots := 0, locals := 22 } : Room) s m args below meth c Q cX6_isLine G false O (fun r M1 => M1 = M ∧ post r)) (x1 : Int32) (H : Heap) (locs : List Loc) (ls : Array Slot) (hH : zH G false s H locs M O) (hl : lv_has ls 2 [(0, .ref (G.1 21)), (1, .int x1)]) (h : pX6_isLine M x1 post) : W p l e ({ frames := 1, cells := 0, slots := 0, locals := 22 } : Room) s m args below meth c H locs 0 0 Q (F0 m 0 ls []) := by
  obtain ⟨hx, hb, hml, hown, hts⟩ := id hF
  unfold pX6_isLine at h
  refine lv_iload_n hx hb dX6_isLine_0 rfl (lv_at hl 1 rfl) ?_
  refine lv_iconst (v := (0 : Int32)) hx hb dX6_isLine_1 (by decide) ?_
  refine lv_aload_n hx hb dX6_isLine_2 rfl (lv_at hl 0 rfl) ?_
  refine zget (v := .int (M.1 21 2)) hF hSt hH 21 (by decide) rfl (zE_21 _ _ _) (C := RX6) (T := TX6) (N := 31) rfl znX6_isLine_X6 2 (by decide) (List.mem_of_getElem? (i := 1) rfl) rfl dX6_isLine_3 ?_
  refine lv_iconst (v := (1 : Int32)) hx hb dX6_isLine_6 (by decide) ?_
  refine lv_isub hx hb dX6_isLine_7 ?_
  refine zcalliP hH (va_runS (As := [.int x1, .int (0 : Int32), .int ((M.1 21 2) - (1 : Int32))]) (rest := []) hF (kX6_in l G M O x1 (0 : Int32) ((M.1 21 2) - (1 : Int32)) _ h) (va_cwS 3 hts gX6_isLine_X6_in rfl rfl rfl zdX6_in ⟨Nat.le_of_ble_eq_true rfl, Nat.le_of_ble_eq_true rfl⟩) (zpreS hSt hH [.int x1, .int (0 : Int32), .int ((M.1 21 2) - (1 : Int32))]) rfl rfl hl.1 rfl (lv_room (Nat.le_of_ble_eq_true rfl)) dX6_isLine_8 ⟨Nat.zero_le _, Nat.zero_le _⟩) (fun r8 H locs h hH => ?_)
  exact hret _ _ _ _ _ _ dX6_isLine_11 ⟨h.1, rfl, h.2⟩ hH
set_option maxRecDepth 100000 in
theorem kX6_isLine (l : Launch) (G : zG) (M O : zM) (x1 : Int32) (post : Int32 → Prop) (h : pX6_isLine M x1 post) : Met l yX6_isLine wsX6_isLine ({ frames := 1, cells := 0, slots := 0, locals := 22 } : Room) (zPc G false M O [.ref (G.1 21), .int x1]) (va_Qi (fun r M1 => M1 = M ∧ post r) (zB G false O) (zAA G)) 0 0 (zAA G) :=
  zmet_z (by decide) rfl (Nat.le_of_ble_eq_true rfl) (fun hF hSt hret H locs ls hH hl => wX6_isLine hF hSt hret x1 H locs ls hH hl h)
end
theorem znX6_waysIn_X6 : ∀ w ∈ wsX60, w ∈ wsX6_waysIn := fun _ h => List.mem_cons_of_mem _ (List.mem_append_right _ h)
theorem zdX6_waysIn : yX6_waysIn.cls ≠ "java/lang/invoke/MethodHandle" ∧ yX6_waysIn.cls ≠ "java/lang/invoke/VarHandle" ∧ (parseMethodDescriptor yX6_waysIn.desc).map (fun d => d.parameters.length) = some 1 := by decide +kernel
-- MixingRelaysModel waysIn(I)I
section
variable {p : Program} {l : Launch} {e : Env} {s : State} {m : MethodId} {args : Array Value} {below : List Frame} {meth : Method} {c : Code} {Q : State → Prop} {G : zG} {O : zM}
def pX6_waysIn_b28 (M : zM) (post : Int32 → Prop) (ag4 : Int32 → Int32 → Int32 → Prop) (x1 : Int32) (x3 : Int32) (t0 : Int32) (t1 : Int32) : Prop :=
  ag4 x1 (t1 + t0) (x3 + (1 : Int32))
set_option maxHeartbeats 4000000 in
set_option maxRecDepth 100000 in
theorem wX6_waysIn_b28 {M : zM} {post : Int32 → Prop} {ag4 : Int32 → Int32 → Int32 → Prop} (hF : CallFix p m c cX6_waysIn 4 s args wsX6_waysIn RX6) (hSt : zSt G s) (hret : zRi p l e ({ frames := 0, cells := 0, slots := 0, locals := 0 } : Room) s m args below meth c Q cX6_waysIn G false O (fun r M1 => M1 = M ∧ post r)) (hag4 : ∀ (x1 : Int32) (x2 : Int32) (x3 : Int32) (H : Heap) (locs : List Loc) (ls : Array Slot), ag4 x1 x2 x3 → zH G false s H locs M O → lv_has ls 4 [(0, .ref (G.1 21)), (1, .int x1), (2, .int x2), (3, .int x3)] → W p l e ({ frames := 0, cells := 0, slots := 0, locals := 0 } : Room) s m args below meth c H locs 0 0 Q (F0 m 4 ls [])) (x1 : Int32) (x3 : Int32) (t0 : Int32) (t1 : Int32) (H : Heap) (locs : List Loc) (ls : Array Slot) (hH : zH G false s H locs M O) (hl : lv_has ls 4 [(0, .ref (G.1 21)), (1, .int x1), (3, .int x3)]) (h : pX6_waysIn_b28 M post ag4 x1 x3 t0 t1) : W p l e ({ frames := 0, cells := 0, slots := 0, locals := 0 } : Room) s m args below meth c H locs 0 0 Q (F0 m 28 ls [.int t0, .int t1]) := by
  obtain ⟨hx, hb, hml, hown, hts⟩ := id hF
  unfold pX6_waysIn_b28 at h
  refine lv_iadd hx hb dX6_waysIn_28 ?_
  refine lv_istore_n (lv' := [(2, .int (t1 + t0)), (0, .ref (G.1 21)), (1, .int x1), (3, .int x3)]) hx hb dX6_waysIn_29 rfl hl (by decide) rfl (fun ls hl => ?_)
  refine lv_iinc (v := (x3 + (1 : Int32))) (lv' := [(3, .int (x3 + (1 : Int32))), (2, .int (t1 + t0)), (0, .ref (G.1 21)), (1, .int x1)]) hx hb dX6_waysIn_30 hl (k := 3) rfl rfl (by decide) rfl (fun ls hl => ?_)
  refine lv_goto (tgt := 4) hx hb dX6_waysIn_33 (by decide) ?_
  exact hag4 x1 (t1 + t0) (x3 + (1 : Int32)) H locs ls h hH (lv_sub hl [2, 3, 1, 0] rfl)
def pX6_waysIn_b4 (M : zM) (post : Int32 → Prop) (ag4 : Int32 → Int32 → Int32 → Prop) (x1 : Int32) (x2 : Int32) (x3 : Int32) : Prop :=
  ((M.1 21 2) ≤ x3 → post x2) ∧ (¬ ((M.1 21 2) ≤ x3) → vp_in x3 30 ∧ (¬ ((M.1 25 x3.toNatClampNeg) = x1) → pX6_waysIn_b28 M post ag4 x1 x3 (0 : Int32) x2) ∧ ((M.1 25 x3.toNatClampNeg) = x1 → pX6_waysIn_b28 M post ag4 x1 x3 (1 : Int32) x2))
set_option maxHeartbeats 4000000 in
set_option maxRecDepth 100000 in
theorem wX6_waysIn_b4 {M : zM} {post : Int32 → Prop} {ag4 : Int32 → Int32 → Int32 → Prop} (hF : CallFix p m c cX6_waysIn 4 s args wsX6_waysIn RX6) (hSt : zSt G s) (hret : zRi p l e ({ frames := 0, cells := 0, slots := 0, locals := 0 } : Room) s m args below meth c Q cX6_waysIn G false O (fun r M1 => M1 = M ∧ post r)) (hag4 : ∀ (x1 : Int32) (x2 : Int32) (x3 : Int32) (H : Heap) (locs : List Loc) (ls : Array Slot), ag4 x1 x2 x3 → zH G false s H locs M O → lv_has ls 4 [(0, .ref (G.1 21)), (1, .int x1), (2, .int x2), (3, .int x3)] → W p l e ({ frames := 0, cells := 0, slots := 0, locals := 0 } : Room) s m args below meth c H locs 0 0 Q (F0 m 4 ls [])) (x1 : Int32) (x2 : Int32) (x3 : Int32) (H : Heap) (locs : List Loc) (ls : Array Slot) (hH : zH G false s H locs M O) (hl : lv_has ls 4 [(0, .ref (G.1 21)), (1, .int x1), (2, .int x2), (3, .int x3)]) (h : pX6_waysIn_b4 M post ag4 x1 x2 x3) : W p l e ({ frames := 0, cells := 0, slots := 0, locals := 0 } : Room) s m args below meth c H locs 0 0 Q (F0 m 4 ls []) := by
  obtain ⟨hx, hb, hml, hown, hts⟩ := id hF
  unfold pX6_waysIn_b4 at h
  refine lv_iload_n hx hb dX6_waysIn_4 rfl (lv_at hl 3 rfl) ?_
  refine lv_aload_n hx hb dX6_waysIn_5 rfl (lv_at hl 0 rfl) ?_
  refine zget (v := .int (M.1 21 2)) hF hSt hH 21 (by decide) rfl (zE_21 _ _ _) (C := RX6) (T := TX6) (N := 31) rfl znX6_waysIn_X6 2 (by decide) (List.mem_of_getElem? (i := 1) rfl) rfl dX6_waysIn_6 ?_
  refine lv_icmp_ge (tgt := 36) hx hb dX6_waysIn_9 (by decide) (fun q9 => ?_) (fun q9 => ?_)
  · have h := h.1 q9
    refine lv_iload_n hx hb dX6_waysIn_36 rfl (lv_at hl 2 rfl) ?_
    exact hret _ _ _ _ _ _ dX6_waysIn_37 ⟨rfl, h⟩ hH
  · have h := h.2 q9
    refine lv_iload_n hx hb dX6_waysIn_12 rfl (lv_at hl 2 rfl) ?_
    refine lv_aload_n hx hb dX6_waysIn_13 rfl (lv_at hl 0 rfl) ?_
    refine zget (v := .ref (G.1 25)) hF hSt hH 21 (by decide) rfl (zE_21 _ _ _) (C := RX6) (T := TX6) (N := 31) rfl znX6_waysIn_X6 7 (by decide) (List.mem_of_getElem? (i := 2) rfl) rfl dX6_waysIn_14 ?_
    refine lv_iload_n hx hb dX6_waysIn_17 rfl (lv_at hl 3 rfl) ?_
    obtain ⟨q18, h⟩ := h
    refine zald hF hSt hH 25 (by decide) rfl (zE_25 _ _ _) q18 dX6_waysIn_18 ?_
    refine lv_iload_n hx hb dX6_waysIn_19 rfl (lv_at hl 1 rfl) ?_
    refine lv_icmp_ne (tgt := 27) hx hb dX6_waysIn_20 (by decide) (fun q20 => ?_) (fun q20 => ?_)
    · have h := h.1 q20
      refine lv_iconst (v := (0 : Int32)) hx hb dX6_waysIn_27 (by decide) ?_
      exact wX6_waysIn_b28 hF hSt hret hag4 x1 x3 (0 : Int32) x2 H locs ls hH (lv_sub hl [0, 1, 3] rfl) h
    · have h := h.2 q20
      refine lv_iconst (v := (1 : Int32)) hx hb dX6_waysIn_23 (by decide) ?_
      refine lv_goto (tgt := 28) hx hb dX6_waysIn_24 (by decide) ?_
      exact wX6_waysIn_b28 hF hSt hret hag4 x1 x3 (1 : Int32) x2 H locs ls hH (lv_sub hl [0, 1, 3] rfl) h
def pX6_waysIn_L4 (M : zM) (post : Int32 → Prop) (x1 : Int32) (x2 : Int32) (x3 : Int32) : Prop :=
  ∃ I : Nat → Int32 → Int32 → Int32 → Prop, (∃ n, I n x1 x2 x3) ∧ ∀ n x1 x2 x3, I n x1 x2 x3 → pX6_waysIn_b4 M post (fun x1 x2 x3 => ∃ k, k < n ∧ I k x1 x2 x3) x1 x2 x3
set_option maxHeartbeats 4000000 in
theorem wX6_waysIn_L4 {M : zM} {post : Int32 → Prop}  (hF : CallFix p m c cX6_waysIn 4 s args wsX6_waysIn RX6) (hSt : zSt G s) (hret : zRi p l e ({ frames := 0, cells := 0, slots := 0, locals := 0 } : Room) s m args below meth c Q cX6_waysIn G false O (fun r M1 => M1 = M ∧ post r)) (x1 : Int32) (x2 : Int32) (x3 : Int32) (H : Heap) (locs : List Loc) (ls : Array Slot) (hH : zH G false s H locs M O) (hl : lv_has ls 4 [(0, .ref (G.1 21)), (1, .int x1), (2, .int x2), (3, .int x3)]) (h : pX6_waysIn_L4 M post x1 x2 x3) : W p l e ({ frames := 0, cells := 0, slots := 0, locals := 0 } : Room) s m args below meth c H locs 0 0 Q (F0 m 4 ls []) := by
  obtain ⟨I, ⟨n, hI⟩, hs⟩ := h
  have key : ∀ (n : Nat) (x1 : Int32) (x2 : Int32) (x3 : Int32) (H : Heap) (locs : List Loc) (ls : Array Slot), I n x1 x2 x3 → zH G false s H locs M O → lv_has ls 4 [(0, .ref (G.1 21)), (1, .int x1), (2, .int x2), (3, .int x3)] → W p l e ({ frames := 0, cells := 0, slots := 0, locals := 0 } : Room) s m args below meth c H locs 0 0 Q (F0 m 4 ls []) := by
    intro n
    induction n using Nat.strongRecOn with
    | _ n ih =>
      intro x1 x2 x3 H locs ls hI hH hl
      exact wX6_waysIn_b4 hF hSt hret (fun x1 x2 x3 H locs ls h hH hl => by obtain ⟨k, hk, hI⟩ := h; exact ih k hk x1 x2 x3 H locs ls hI hH hl) x1 x2 x3 H locs ls hH hl (hs n x1 x2 x3 hI)
  exact key n x1 x2 x3 H locs ls hI hH hl
def pX6_waysIn (M : zM) (x1 : Int32) (post : Int32 → Prop) : Prop :=
  pX6_waysIn_L4 M post x1 (0 : Int32) (0 : Int32)
set_option maxHeartbeats 4000000 in
set_option maxRecDepth 100000 in
theorem wX6_waysIn {M : zM} {post : Int32 → Prop} (hF : CallFix p m c cX6_waysIn 4 s args wsX6_waysIn RX6) (hSt : zSt G s) (hret : zRi p l e ({ frames := 0, cells := 0, slots := 0, locals := 0 } : Room) s m args below meth c Q cX6_waysIn G false O (fun r M1 => M1 = M ∧ post r)) (x1 : Int32) (H : Heap) (locs : List Loc) (ls : Array Slot) (hH : zH G false s H locs M O) (hl : lv_has ls 4 [(0, .ref (G.1 21)), (1, .int x1)]) (h : pX6_waysIn M x1 post) : W p l e ({ frames := 0, cells := 0, slots := 0, locals := 0 } : Room) s m args below meth c H locs 0 0 Q (F0 m 0 ls []) := by
  obtain ⟨hx, hb, hml, hown, hts⟩ := id hF
  unfold pX6_waysIn at h
  refine lv_iconst (v := (0 : Int32)) hx hb dX6_waysIn_0 (by decide) ?_
  refine lv_istore_n (lv' := [(2, .int (0 : Int32)), (0, .ref (G.1 21)), (1, .int x1)]) hx hb dX6_waysIn_1 rfl hl (by decide) rfl (fun ls hl => ?_)
  refine lv_iconst (v := (0 : Int32)) hx hb dX6_waysIn_2 (by decide) ?_
  refine lv_istore_n (lv' := [(3, .int (0 : Int32)), (2, .int (0 : Int32)), (0, .ref (G.1 21)), (1, .int x1)]) hx hb dX6_waysIn_3 rfl hl (by decide) rfl (fun ls hl => ?_)
  exact wX6_waysIn_L4 hF hSt hret x1 (0 : Int32) (0 : Int32) H locs ls hH (lv_sub hl [2, 3, 1, 0] rfl) h
set_option maxRecDepth 100000 in
theorem kX6_waysIn (l : Launch) (G : zG) (M O : zM) (x1 : Int32) (post : Int32 → Prop) (h : pX6_waysIn M x1 post) : Met l yX6_waysIn wsX6_waysIn ({ frames := 0, cells := 0, slots := 0, locals := 0 } : Room) (zPc G false M O [.ref (G.1 21), .int x1]) (va_Qi (fun r M1 => M1 = M ∧ post r) (zB G false O) (zAA G)) 0 0 (zAA G) :=
  zmet_i (by decide) rfl (Nat.le_of_ble_eq_true rfl) (fun hF hSt hret H locs ls hH hl => wX6_waysIn hF hSt hret x1 H locs ls hH hl h)
end
theorem znX6_ins_X6 : ∀ w ∈ wsX60, w ∈ wsX6_ins := fun _ h => List.mem_cons_of_mem _ (List.mem_append_right _ h)
theorem zdX6_ins : yX6_ins.cls ≠ "java/lang/invoke/MethodHandle" ∧ yX6_ins.cls ≠ "java/lang/invoke/VarHandle" ∧ (parseMethodDescriptor yX6_ins.desc).map (fun d => d.parameters.length) = some 1 := by decide +kernel
-- MixingRelaysModel ins(I)I
section
variable {p : Program} {l : Launch} {e : Env} {s : State} {m : MethodId} {args : Array Value} {below : List Frame} {meth : Method} {c : Code} {Q : State → Prop} {G : zG} {O : zM}
def pX6_ins_b26 (M : zM) (post : Int32 → Prop) (t0 : Int32) : Prop :=
  post t0
set_option maxHeartbeats 4000000 in
set_option maxRecDepth 100000 in
theorem wX6_ins_b26 {M : zM} {post : Int32 → Prop}  (hF : CallFix p m c cX6_ins 2 s args wsX6_ins RX6) (hSt : zSt G s) (hret : zRi p l e ({ frames := 1, cells := 0, slots := 0, locals := 23 } : Room) s m args below meth c Q cX6_ins G false O (fun r M1 => M1 = M ∧ post r)) (t0 : Int32) (H : Heap) (locs : List Loc) (ls : Array Slot) (hH : zH G false s H locs M O) (hl : lv_has ls 2 []) (h : pX6_ins_b26 M post t0) : W p l e ({ frames := 1, cells := 0, slots := 0, locals := 23 } : Room) s m args below meth c H locs 0 0 Q (F0 m 26 ls [.int t0]) := by
  obtain ⟨hx, hb, hml, hown, hts⟩ := id hF
  unfold pX6_ins_b26 at h
  exact hret _ _ _ _ _ _ dX6_ins_26 ⟨rfl, h⟩ hH
def pX6_ins (M : zM) (x1 : Int32) (post : Int32 → Prop) : Prop :=
  vp_in x1 30 ∧ (¬ ((M.1 24 x1.toNatClampNeg) = 0) → vp_in x1 30 ∧ pX6_waysIn M (M.1 24 x1.toNatClampNeg) (fun r23 => pX6_ins_b26 M post r23)) ∧ ((M.1 24 x1.toNatClampNeg) = 0 → pX6_ins_b26 M post (M.1 21 3))
set_option maxHeartbeats 4000000 in
set_option maxRecDepth 100000 in
theorem wX6_ins {M : zM} {post : Int32 → Prop} (hF : CallFix p m c cX6_ins 2 s args wsX6_ins RX6) (hSt : zSt G s) (hret : zRi p l e ({ frames := 1, cells := 0, slots := 0, locals := 23 } : Room) s m args below meth c Q cX6_ins G false O (fun r M1 => M1 = M ∧ post r)) (x1 : Int32) (H : Heap) (locs : List Loc) (ls : Array Slot) (hH : zH G false s H locs M O) (hl : lv_has ls 2 [(0, .ref (G.1 21)), (1, .int x1)]) (h : pX6_ins M x1 post) : W p l e ({ frames := 1, cells := 0, slots := 0, locals := 23 } : Room) s m args below meth c H locs 0 0 Q (F0 m 0 ls []) := by
  obtain ⟨hx, hb, hml, hown, hts⟩ := id hF
  unfold pX6_ins at h
  refine lv_aload_n hx hb dX6_ins_0 rfl (lv_at hl 0 rfl) ?_
  refine zget (v := .ref (G.1 24)) hF hSt hH 21 (by decide) rfl (zE_21 _ _ _) (C := RX6) (T := TX6) (N := 31) rfl znX6_ins_X6 6 (by decide) (List.mem_of_getElem? (i := 1) rfl) rfl dX6_ins_1 ?_
  refine lv_iload_n hx hb dX6_ins_4 rfl (lv_at hl 1 rfl) ?_
  obtain ⟨q5, h⟩ := h
  refine zald hF hSt hH 24 (by decide) rfl (zE_24 _ _ _) q5 dX6_ins_5 ?_
  refine lv_if_ne (tgt := 16) hx hb dX6_ins_6 (by decide) (fun q6 => ?_) (fun q6 => ?_)
  · have h := h.1 q6
    refine lv_aload_n hx hb dX6_ins_16 rfl (lv_at hl 0 rfl) ?_
    refine lv_aload_n hx hb dX6_ins_17 rfl (lv_at hl 0 rfl) ?_
    refine zget (v := .ref (G.1 24)) hF hSt hH 21 (by decide) rfl (zE_21 _ _ _) (C := RX6) (T := TX6) (N := 31) rfl znX6_ins_X6 6 (by decide) (List.mem_of_getElem? (i := 1) rfl) rfl dX6_ins_18 ?_
    refine lv_iload_n hx hb dX6_ins_21 rfl (lv_at hl 1 rfl) ?_
    obtain ⟨q22, h⟩ := h
    refine zald hF hSt hH 24 (by decide) rfl (zE_24 _ _ _) q22 dX6_ins_22 ?_
    refine zcalliP hH (va_runV (As := [.int (M.1 24 x1.toNatClampNeg)]) (rest := []) hF (kX6_waysIn l G M O (M.1 24 x1.toNatClampNeg) _ h) (cwV 1 hts gX6_ins_X6_waysIn rfl rfl rfl ⟨rfl, zdX6_waysIn⟩ ⟨Nat.le_of_ble_eq_true rfl, Nat.le_of_ble_eq_true rfl⟩) (zpreV hSt hH 21 (by decide) rfl (zE_21 _ _ _) (q := (RX6, TX6, 31)) rfl [.int (M.1 24 x1.toNatClampNeg)]) rfl rfl hl.1 rfl (lv_room (Nat.le_of_ble_eq_true rfl)) dX6_ins_23 ⟨Nat.zero_le _, Nat.zero_le _⟩) (fun r23 H locs h hH => ?_)
    exact wX6_ins_b26 hF hSt hret r23 H locs ls hH (lv_sub hl [] rfl) h
  · have h := h.2 q6
    refine lv_aload_n hx hb dX6_ins_9 rfl (lv_at hl 0 rfl) ?_
    refine zget (v := .int (M.1 21 3)) hF hSt hH 21 (by decide) rfl (zE_21 _ _ _) (C := RX6) (T := TX6) (N := 31) rfl znX6_ins_X6 3 (by decide) (List.mem_of_getElem? (i := 2) rfl) rfl dX6_ins_10 ?_
    refine lv_goto (tgt := 26) hx hb dX6_ins_13 (by decide) ?_
    exact wX6_ins_b26 hF hSt hret (M.1 21 3) H locs ls hH (lv_sub hl [] rfl) h
set_option maxRecDepth 100000 in
theorem kX6_ins (l : Launch) (G : zG) (M O : zM) (x1 : Int32) (post : Int32 → Prop) (h : pX6_ins M x1 post) : Met l yX6_ins wsX6_ins ({ frames := 1, cells := 0, slots := 0, locals := 23 } : Room) (zPc G false M O [.ref (G.1 21), .int x1]) (va_Qi (fun r M1 => M1 = M ∧ post r) (zB G false O) (zAA G)) 0 0 (zAA G) :=
  zmet_i (by decide) rfl (Nat.le_of_ble_eq_true rfl) (fun hF hSt hret H locs ls hH hl => wX6_ins hF hSt hret x1 H locs ls hH hl h)
end
theorem znX6_factor_X6 : ∀ w ∈ wsX60, w ∈ wsX6_factor := fun _ h => List.mem_cons_of_mem _ (List.mem_append_right _ h)
theorem zdX6_factor : yX6_factor.cls ≠ "java/lang/invoke/MethodHandle" ∧ yX6_factor.cls ≠ "java/lang/invoke/VarHandle" ∧ (parseMethodDescriptor yX6_factor.desc).map (fun d => d.parameters.length) = some 3 := by decide +kernel
-- MixingRelaysModel factor(III)I
section
variable {p : Program} {l : Launch} {e : Env} {s : State} {m : MethodId} {args : Array Value} {below : List Frame} {meth : Method} {c : Code} {Q : State → Prop} {G : zG} {O : zM}
def pX6_factor_b23 (post : Int32 → zM → Prop) (M : zM) : Prop :=
  post (-1 : Int32) M
set_option maxHeartbeats 4000000 in
set_option maxRecDepth 100000 in
theorem wX6_factor_b23 {post : Int32 → zM → Prop}  (hF : CallFix p m c cX6_factor 5 s args wsX6_factor RX6) (hSt : zSt G s) (hret : zRi p l e ({ frames := 2, cells := 0, slots := 0, locals := 44 } : Room) s m args below meth c Q cX6_factor G false O post) (M : zM) (H : Heap) (locs : List Loc) (ls : Array Slot) (hH : zH G false s H locs M O) (hl : lv_has ls 5 []) (h : pX6_factor_b23 post M) : W p l e ({ frames := 2, cells := 0, slots := 0, locals := 44 } : Room) s m args below meth c H locs 0 0 Q (F0 m 23 ls []) := by
  obtain ⟨hx, hb, hml, hown, hts⟩ := id hF
  unfold pX6_factor_b23 at h
  refine lv_iconst (v := (-1 : Int32)) hx hb dX6_factor_23 (by decide) ?_
  exact hret _ _ _ _ _ _ dX6_factor_24 h hH
def pX6_factor (M : zM) (x1 : Int32) (x2 : Int32) (x3 : Int32) (post : Int32 → zM → Prop) : Prop :=
  pX6_isLine M x1 (fun r2 => (r2 = 0 → pX6_factor_b23 post M) ∧ (¬ (r2 = 0) → pX6_ins M x1 (fun r12 => pX6_in x2 (0 : Int32) (r12 - (1 : Int32)) (fun r17 => (¬ (r17 = 0) → pX6_in x3 (0 : Int32) (255 : Int32) (fun r30 => (¬ (r30 = 0) → vp_in (((30 : Int32) * x1) + x2) 900 ∧ vp_in (((30 : Int32) * x1) + x2) 900 ∧ post (M.1 29 ((((30 : Int32) * x1) + x2)).toNatClampNeg) (zsi M 29 ((((30 : Int32) * x1) + x2)).toNatClampNeg x3)) ∧ (r30 = 0 → post (-2 : Int32) M))) ∧ (r17 = 0 → pX6_factor_b23 post M)))))
set_option maxHeartbeats 4000000 in
set_option maxRecDepth 100000 in
theorem wX6_factor {M : zM} {post : Int32 → zM → Prop} (hF : CallFix p m c cX6_factor 5 s args wsX6_factor RX6) (hSt : zSt G s) (hret : zRi p l e ({ frames := 2, cells := 0, slots := 0, locals := 44 } : Room) s m args below meth c Q cX6_factor G false O post) (x1 : Int32) (x2 : Int32) (x3 : Int32) (H : Heap) (locs : List Loc) (ls : Array Slot) (hH : zH G false s H locs M O) (hl : lv_has ls 5 [(0, .ref (G.1 21)), (1, .int x1), (2, .int x2), (3, .int x3)]) (h : pX6_factor M x1 x2 x3 post) : W p l e ({ frames := 2, cells := 0, slots := 0, locals := 44 } : Room) s m args below meth c H locs 0 0 Q (F0 m 0 ls []) := by
  obtain ⟨hx, hb, hml, hown, hts⟩ := id hF
  unfold pX6_factor at h
  refine lv_aload_n hx hb dX6_factor_0 rfl (lv_at hl 0 rfl) ?_
  refine lv_iload_n hx hb dX6_factor_1 rfl (lv_at hl 1 rfl) ?_
  refine zcalliP hH (va_runV (As := [.int x1]) (rest := []) hF (kX6_isLine l G M O x1 _ h) (cwV 1 hts gX6_factor_X6_isLine rfl rfl rfl ⟨rfl, zdX6_isLine⟩ ⟨Nat.le_of_ble_eq_true rfl, Nat.le_of_ble_eq_true rfl⟩) (zpreV hSt hH 21 (by decide) rfl (zE_21 _ _ _) (q := (RX6, TX6, 31)) rfl [.int x1]) rfl rfl hl.1 rfl (lv_room (Nat.le_of_ble_eq_true rfl)) dX6_factor_2 ⟨Nat.zero_le _, Nat.zero_le _⟩) (fun r2 H locs h hH => ?_)
  refine lv_if_eq (tgt := 23) hx hb dX6_factor_5 (by decide) (fun q5 => ?_) (fun q5 => ?_)
  · have h := h.1 q5
    exact wX6_factor_b23 hF hSt hret M H locs ls hH (lv_sub hl [] rfl) h
  · have h := h.2 q5
    refine lv_iload_n hx hb dX6_factor_8 rfl (lv_at hl 2 rfl) ?_
    refine lv_iconst (v := (0 : Int32)) hx hb dX6_factor_9 (by decide) ?_
    refine lv_aload_n hx hb dX6_factor_10 rfl (lv_at hl 0 rfl) ?_
    refine lv_iload_n hx hb dX6_factor_11 rfl (lv_at hl 1 rfl) ?_
    refine zcalliP hH (va_runV (As := [.int x1]) (rest := [.int (0 : Int32), .int x2]) hF (kX6_ins l G M O x1 _ h) (cwV 1 hts gX6_factor_X6_ins rfl rfl rfl ⟨rfl, zdX6_ins⟩ ⟨Nat.le_of_ble_eq_true rfl, Nat.le_of_ble_eq_true rfl⟩) (zpreV hSt hH 21 (by decide) rfl (zE_21 _ _ _) (q := (RX6, TX6, 31)) rfl [.int x1]) rfl rfl hl.1 rfl (lv_room (Nat.le_of_ble_eq_true rfl)) dX6_factor_12 ⟨Nat.zero_le _, Nat.zero_le _⟩) (fun r12 H locs h hH => ?_)
    refine lv_iconst (v := (1 : Int32)) hx hb dX6_factor_15 (by decide) ?_
    refine lv_isub hx hb dX6_factor_16 ?_
    refine zcalliP hH (va_runS (As := [.int x2, .int (0 : Int32), .int (r12 - (1 : Int32))]) (rest := []) hF (kX6_in l G M O x2 (0 : Int32) (r12 - (1 : Int32)) _ h) (va_cwS 3 hts gX6_factor_X6_in rfl rfl rfl zdX6_in ⟨Nat.le_of_ble_eq_true rfl, Nat.le_of_ble_eq_true rfl⟩) (zpreS hSt hH [.int x2, .int (0 : Int32), .int (r12 - (1 : Int32))]) rfl rfl hl.1 rfl (lv_room (Nat.le_of_ble_eq_true rfl)) dX6_factor_17 ⟨Nat.zero_le _, Nat.zero_le _⟩) (fun r17 H locs h hH => ?_)
    refine lv_if_ne (tgt := 25) hx hb dX6_factor_20 (by decide) (fun q20 => ?_) (fun q20 => ?_)
    · have h := h.1 q20
      refine lv_iload_n hx hb dX6_factor_25 rfl (lv_at hl 3 rfl) ?_
      refine lv_iconst (v := (0 : Int32)) hx hb dX6_factor_26 (by decide) ?_
      refine lv_sipush (v := (255 : Int32)) hx hb dX6_factor_27 (by decide) ?_
      refine zcalliP hH (va_runS (As := [.int x3, .int (0 : Int32), .int (255 : Int32)]) (rest := []) hF (kX6_in l G M O x3 (0 : Int32) (255 : Int32) _ h) (va_cwS 3 hts gX6_factor_X6_in rfl rfl rfl zdX6_in ⟨Nat.le_of_ble_eq_true rfl, Nat.le_of_ble_eq_true rfl⟩) (zpreS hSt hH [.int x3, .int (0 : Int32), .int (255 : Int32)]) rfl rfl hl.1 rfl (lv_room (Nat.le_of_ble_eq_true rfl)) dX6_factor_30 ⟨Nat.zero_le _, Nat.zero_le _⟩) (fun r30 H locs h hH => ?_)
      refine lv_if_ne (tgt := 39) hx hb dX6_factor_33 (by decide) (fun q33 => ?_) (fun q33 => ?_)
      · have h := h.1 q33
        refine lv_aload_n hx hb dX6_factor_39 rfl (lv_at hl 0 rfl) ?_
        refine zget (v := .ref (G.1 29)) hF hSt hH 21 (by decide) rfl (zE_21 _ _ _) (C := RX6) (T := TX6) (N := 31) rfl znX6_factor_X6 11 (by decide) (List.mem_of_getElem? (i := 1) rfl) rfl dX6_factor_40 ?_
        refine lv_bipush (v := (30 : Int32)) hx hb dX6_factor_43 (by decide) ?_
        refine lv_iload_n hx hb dX6_factor_45 rfl (lv_at hl 1 rfl) ?_
        refine lv_imul hx hb dX6_factor_46 ?_
        refine lv_iload_n hx hb dX6_factor_47 rfl (lv_at hl 2 rfl) ?_
        refine lv_iadd hx hb dX6_factor_48 ?_
        obtain ⟨q49, h⟩ := h
        refine zald hF hSt hH 29 (by decide) rfl (zE_29 _ _ _) q49 dX6_factor_49 ?_
        refine lv_istore (lv' := [(4, .int (M.1 29 ((((30 : Int32) * x1) + x2)).toNatClampNeg)), (0, .ref (G.1 21)), (1, .int x1), (2, .int x2), (3, .int x3)]) hx hb dX6_factor_50 hl (by decide) rfl (fun ls hl => ?_)
        refine lv_aload_n hx hb dX6_factor_52 rfl (lv_at hl 1 rfl) ?_
        refine zget (v := .ref (G.1 29)) hF hSt hH 21 (by decide) rfl (zE_21 _ _ _) (C := RX6) (T := TX6) (N := 31) rfl znX6_factor_X6 11 (by decide) (List.mem_of_getElem? (i := 1) rfl) rfl dX6_factor_53 ?_
        refine lv_bipush (v := (30 : Int32)) hx hb dX6_factor_56 (by decide) ?_
        refine lv_iload_n hx hb dX6_factor_58 rfl (lv_at hl 2 rfl) ?_
        refine lv_imul hx hb dX6_factor_59 ?_
        refine lv_iload_n hx hb dX6_factor_60 rfl (lv_at hl 3 rfl) ?_
        refine lv_iadd hx hb dX6_factor_61 ?_
        refine lv_iload_n hx hb dX6_factor_62 rfl (lv_at hl 4 rfl) ?_
        obtain ⟨q63, h⟩ := h
        refine zast hF hSt hH 29 (by decide) rfl (zE_29 _) (x := x3) q63 dX6_factor_63 (fun H locs hH => ?_)
        refine lv_iload hx hb dX6_factor_64 (lv_at hl 0 rfl) ?_
        exact hret _ _ _ _ _ _ dX6_factor_66 h hH
      · have h := h.2 q33
        refine lv_bipush (v := (-2 : Int32)) hx hb dX6_factor_36 (by decide) ?_
        exact hret _ _ _ _ _ _ dX6_factor_38 h hH
    · have h := h.2 q20
      exact wX6_factor_b23 hF hSt hret M H locs ls hH (lv_sub hl [] rfl) h
set_option maxRecDepth 100000 in
theorem kX6_factor (l : Launch) (G : zG) (M O : zM) (x1 : Int32) (x2 : Int32) (x3 : Int32) (post : Int32 → zM → Prop) (h : pX6_factor M x1 x2 x3 post) : Met l yX6_factor wsX6_factor ({ frames := 2, cells := 0, slots := 0, locals := 44 } : Room) (zPc G false M O [.ref (G.1 21), .int x1, .int x2, .int x3]) (va_Qi post (zB G false O) (zAA G)) 0 0 (zAA G) :=
  zmet_i (by decide) rfl (Nat.le_of_ble_eq_true rfl) (fun hF hSt hret H locs ls hH hl => wX6_factor hF hSt hret x1 x2 x3 H locs ls hH hl h)
end
