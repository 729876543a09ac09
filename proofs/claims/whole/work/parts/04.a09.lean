theorem znX5_safe_X5 : ∀ w ∈ wsX50, w ∈ wsX5_safe := fun _ h => List.mem_cons_of_mem _ (List.mem_append_left _ (List.mem_append_left _ (List.mem_append_left _ (List.mem_append_right _ h))))
theorem znX5_safe_X2 : ∀ w ∈ wsX20, w ∈ wsX5_safe := fun _ h => List.mem_cons_of_mem _ (List.mem_append_left _ (List.mem_append_left _ (List.mem_append_right _ h)))
theorem znX5_safe_X0 : ∀ w ∈ wsX00, w ∈ wsX5_safe := fun _ h => List.mem_cons_of_mem _ (List.mem_append_left _ (List.mem_append_right _ h))
theorem znX5_safe_X3 : ∀ w ∈ wsX30, w ∈ wsX5_safe := fun _ h => List.mem_cons_of_mem _ (List.mem_append_right _ h)
theorem zdX5_safe : yX5_safe.cls ≠ "java/lang/invoke/MethodHandle" ∧ yX5_safe.cls ≠ "java/lang/invoke/VarHandle" ∧ (parseMethodDescriptor yX5_safe.desc).map (fun d => d.parameters.length) = some 2 := by decide +kernel
-- MixingRelays safe(II)I
section
variable {p : Program} {l : Launch} {e : Env} {s : State} {m : MethodId} {args : Array Value} {below : List Frame} {meth : Method} {c : Code} {Q : State → Prop} {G : zG} {O : zM}
def pX5_safe_b22 (post : Int32 → zM → Prop) (M : zM) : Prop :=
  post (-2 : Int32) M
set_option maxHeartbeats 4000000 in
set_option maxRecDepth 100000 in
theorem wX5_safe_b22 {post : Int32 → zM → Prop}  (hF : CallFix p m c cX5_safe 3 s args wsX5_safe RX5) (hSt : zSt G s) (hret : zRi p l e ({ frames := 7, cells := 0, slots := 0, locals := 171 } : Room) s m args below meth c Q cX5_safe G true O post) (M : zM) (H : Heap) (locs : List Loc) (ls : Array Slot) (hH : zH G true s H locs M O) (hl : lv_has ls 3 []) (h : pX5_safe_b22 post M) : W p l e ({ frames := 7, cells := 0, slots := 0, locals := 171 } : Room) s m args below meth c H locs 0 0 Q (F0 m 22 ls []) := by
  obtain ⟨hx, hb, hml, hown, hts⟩ := id hF
  unfold pX5_safe_b22 at h
  refine lv_bipush (v := (-2 : Int32)) hx hb dX5_safe_22 (by decide) ?_
  exact hret _ _ _ _ _ _ dX5_safe_24 h hH
def pX5_safe_b42 (post : Int32 → zM → Prop) (t0 : Int32) (M : zM) : Prop :=
  pX5_asFlag t0 (fun r42 => post r42 M)
set_option maxHeartbeats 4000000 in
set_option maxRecDepth 100000 in
theorem wX5_safe_b42 {post : Int32 → zM → Prop}  (hF : CallFix p m c cX5_safe 3 s args wsX5_safe RX5) (hSt : zSt G s) (hret : zRi p l e ({ frames := 7, cells := 0, slots := 0, locals := 171 } : Room) s m args below meth c Q cX5_safe G true O post) (t0 : Int32) (M : zM) (H : Heap) (locs : List Loc) (ls : Array Slot) (hH : zH G true s H locs M O) (hl : lv_has ls 3 []) (h : pX5_safe_b42 post t0 M) : W p l e ({ frames := 7, cells := 0, slots := 0, locals := 171 } : Room) s m args below meth c H locs 0 0 Q (F0 m 42 ls [.int t0]) := by
  obtain ⟨hx, hb, hml, hown, hts⟩ := id hF
  unfold pX5_safe_b42 at h
  refine zcalliP hH (va_runS (As := [.int t0]) (rest := []) hF (kX5_asFlag l G M O t0 _ h) (va_cwS 1 hts gX5_safe_X5_asFlag rfl rfl rfl zdX5_asFlag ⟨Nat.le_of_ble_eq_true rfl, Nat.le_of_ble_eq_true rfl⟩) (zpreS hSt hH [.int t0]) rfl rfl hl.1 rfl (lv_room (Nat.le_of_ble_eq_true rfl)) dX5_safe_42 ⟨Nat.zero_le _, Nat.zero_le _⟩) (fun r42 H locs h hH => ?_)
  exact hret _ _ _ _ _ _ dX5_safe_45 h hH
def pX5_safe (M : zM) (x1 : Int32) (x2 : Int32) (post : Int32 → zM → Prop) : Prop :=
  pX5_isBreakCount x1 (fun r1 => (r1 = 0 → pX5_safe_b22 post M) ∧ (¬ (r1 = 0) → (x2 < 0 → pX5_safe_b22 post M) ∧ (¬ (x2 < 0) → (x2 ≤ (M.1 1 2) → pX0_search M x1 x2 (fun r31 M31 => (¬ (r31 = 0) → pX5_safe_b42 post (0 : Int32) M31) ∧ (r31 = 0 → pX5_safe_b42 post (1 : Int32) M31))) ∧ (¬ (x2 ≤ (M.1 1 2)) → pX5_safe_b22 post M))))
set_option maxHeartbeats 4000000 in
set_option maxRecDepth 100000 in
theorem wX5_safe {M : zM} {post : Int32 → zM → Prop} (hF : CallFix p m c cX5_safe 3 s args wsX5_safe RX5) (hSt : zSt G s) (hret : zRi p l e ({ frames := 7, cells := 0, slots := 0, locals := 171 } : Room) s m args below meth c Q cX5_safe G true O post) (x1 : Int32) (x2 : Int32) (H : Heap) (locs : List Loc) (ls : Array Slot) (hH : zH G true s H locs M O) (hl : lv_has ls 3 [(0, .ref (G.1 0)), (1, .int x1), (2, .int x2)]) (h : pX5_safe M x1 x2 post) : W p l e ({ frames := 7, cells := 0, slots := 0, locals := 171 } : Room) s m args below meth c H locs 0 0 Q (F0 m 0 ls []) := by
  obtain ⟨hx, hb, hml, hown, hts⟩ := id hF
  unfold pX5_safe at h
  refine lv_iload_n hx hb dX5_safe_0 rfl (lv_at hl 1 rfl) ?_
  refine zcalliP hH (va_runS (As := [.int x1]) (rest := []) hF (kX5_isBreakCount l G M O x1 _ h) (va_cwS 1 hts gX5_safe_X5_isBreakCount rfl rfl rfl zdX5_isBreakCount ⟨Nat.le_of_ble_eq_true rfl, Nat.le_of_ble_eq_true rfl⟩) (zpreS hSt hH [.int x1]) rfl rfl hl.1 rfl (lv_room (Nat.le_of_ble_eq_true rfl)) dX5_safe_1 ⟨Nat.zero_le _, Nat.zero_le _⟩) (fun r1 H locs h hH => ?_)
  refine lv_if_eq (tgt := 22) hx hb dX5_safe_4 (by decide) (fun q4 => ?_) (fun q4 => ?_)
  · have h := h.1 q4
    exact wX5_safe_b22 hF hSt hret M H locs ls hH (lv_sub hl [] rfl) h
  · have h := h.2 q4
    refine lv_iload_n hx hb dX5_safe_7 rfl (lv_at hl 2 rfl) ?_
    refine lv_if_lt (tgt := 22) hx hb dX5_safe_8 (by decide) (fun q8 => ?_) (fun q8 => ?_)
    · have h := h.1 q8
      exact wX5_safe_b22 hF hSt hret M H locs ls hH (lv_sub hl [] rfl) h
    · have h := h.2 q8
      refine lv_iload_n hx hb dX5_safe_11 rfl (lv_at hl 2 rfl) ?_
      refine lv_aload_n hx hb dX5_safe_12 rfl (lv_at hl 0 rfl) ?_
      refine zget (v := .ref (G.1 1)) hF hSt hH 0 (by decide) rfl (zE_0 _ _ _) (C := RX5) (T := TX5) (N := 5) rfl znX5_safe_X5 0 (by decide) (List.mem_of_getElem? (i := 1) rfl) rfl dX5_safe_13 ?_
      refine zget (v := .int (M.1 1 2)) hF hSt hH 1 (by decide) rfl (zE_1 _ _ _) (C := RX2) (T := TX2) (N := 16) rfl znX5_safe_X2 2 (by decide) (List.mem_of_getElem? (i := 2) rfl) rfl dX5_safe_16 ?_
      refine lv_icmp_le (tgt := 25) hx hb dX5_safe_19 (by decide) (fun q19 => ?_) (fun q19 => ?_)
      · have h := h.1 q19
        refine lv_aload_n hx hb dX5_safe_25 rfl (lv_at hl 0 rfl) ?_
        refine zget (v := .ref (G.1 5)) hF hSt hH 0 (by decide) rfl (zE_0 _ _ _) (C := RX5) (T := TX5) (N := 5) rfl znX5_safe_X5 4 (by decide) (List.mem_of_getElem? (i := 3) rfl) rfl dX5_safe_26 ?_
        refine lv_iload_n hx hb dX5_safe_29 rfl (lv_at hl 1 rfl) ?_
        refine lv_iload_n hx hb dX5_safe_30 rfl (lv_at hl 2 rfl) ?_
        refine zcalli hH (va_runV (As := [.int x1, .int x2]) (rest := []) hF (kX0_search l G M O x1 x2 _ h) (cwV 2 hts gX5_safe_X0_search rfl rfl rfl ⟨rfl, zdX0_search⟩ ⟨Nat.le_of_ble_eq_true rfl, Nat.le_of_ble_eq_true rfl⟩) (zpreV hSt hH 5 (by decide) rfl (zE_5 _ _ _) (q := (RX0, TX0, 5)) rfl [.int x1, .int x2]) rfl rfl hl.1 rfl (lv_room (Nat.le_of_ble_eq_true rfl)) dX5_safe_31 ⟨Nat.zero_le _, Nat.zero_le _⟩) (fun r31 M31 H locs h hH => ?_)
        refine lv_if_ne (tgt := 41) hx hb dX5_safe_34 (by decide) (fun q34 => ?_) (fun q34 => ?_)
        · have h := h.1 q34
          refine lv_iconst (v := (0 : Int32)) hx hb dX5_safe_41 (by decide) ?_
          exact wX5_safe_b42 hF hSt hret (0 : Int32) M31 H locs ls hH (lv_sub hl [] rfl) h
        · have h := h.2 q34
          refine lv_iconst (v := (1 : Int32)) hx hb dX5_safe_37 (by decide) ?_
          refine lv_goto (tgt := 42) hx hb dX5_safe_38 (by decide) ?_
          exact wX5_safe_b42 hF hSt hret (1 : Int32) M31 H locs ls hH (lv_sub hl [] rfl) h
      · have h := h.2 q19
        exact wX5_safe_b22 hF hSt hret M H locs ls hH (lv_sub hl [] rfl) h
set_option maxRecDepth 100000 in
theorem kX5_safe (l : Launch) (G : zG) (M O : zM) (x1 : Int32) (x2 : Int32) (post : Int32 → zM → Prop) (h : pX5_safe M x1 x2 post) : Met l yX5_safe wsX5_safe ({ frames := 7, cells := 0, slots := 0, locals := 171 } : Room) (zPc G true M O [.ref (G.1 0), .int x1, .int x2]) (va_Qi post (zB G true O) (zAA G)) 0 0 (zAA G) :=
  zmet_i (by decide) rfl (Nat.le_of_ble_eq_true rfl) (fun hF hSt hret H locs ls hH hl => wX5_safe hF hSt hret x1 x2 H locs ls hH hl h)
end
theorem znX5_breaks_X5 : ∀ w ∈ wsX50, w ∈ wsX5_breaks := fun _ h => List.mem_cons_of_mem _ (List.mem_append_left _ (List.mem_append_left _ (List.mem_append_left _ (List.mem_append_right _ h))))
theorem znX5_breaks_X2 : ∀ w ∈ wsX20, w ∈ wsX5_breaks := fun _ h => List.mem_cons_of_mem _ (List.mem_append_left _ (List.mem_append_left _ (List.mem_append_right _ h)))
theorem znX5_breaks_X0 : ∀ w ∈ wsX00, w ∈ wsX5_breaks := fun _ h => List.mem_cons_of_mem _ (List.mem_append_left _ (List.mem_append_right _ h))
theorem znX5_breaks_X3 : ∀ w ∈ wsX30, w ∈ wsX5_breaks := fun _ h => List.mem_cons_of_mem _ (List.mem_append_right _ h)
theorem zdX5_breaks : yX5_breaks.cls ≠ "java/lang/invoke/MethodHandle" ∧ yX5_breaks.cls ≠ "java/lang/invoke/VarHandle" ∧ (parseMethodDescriptor yX5_breaks.desc).map (fun d => d.parameters.length) = some 3 := by decide +kernel
-- MixingRelays breaks(III)I
section
variable {p : Program} {l : Launch} {e : Env} {s : State} {m : MethodId} {args : Array Value} {below : List Frame} {meth : Method} {c : Code} {Q : State → Prop} {G : zG} {O : zM}
def pX5_breaks_b9 (post : Int32 → zM → Prop) (M : zM) : Prop :=
  post (-1 : Int32) M
set_option maxHeartbeats 4000000 in
set_option maxRecDepth 100000 in
theorem wX5_breaks_b9 {post : Int32 → zM → Prop}  (hF : CallFix p m c cX5_breaks 4 s args wsX5_breaks RX5) (hSt : zSt G s) (hret : zRi p l e ({ frames := 7, cells := 0, slots := 0, locals := 171 } : Room) s m args below meth c Q cX5_breaks G true O post) (M : zM) (H : Heap) (locs : List Loc) (ls : Array Slot) (hH : zH G true s H locs M O) (hl : lv_has ls 4 []) (h : pX5_breaks_b9 post M) : W p l e ({ frames := 7, cells := 0, slots := 0, locals := 171 } : Room) s m args below meth c H locs 0 0 Q (F0 m 9 ls []) := by
  obtain ⟨hx, hb, hml, hown, hts⟩ := id hF
  unfold pX5_breaks_b9 at h
  refine lv_iconst (v := (-1 : Int32)) hx hb dX5_breaks_9 (by decide) ?_
  exact hret _ _ _ _ _ _ dX5_breaks_10 h hH
def pX5_breaks_b33 (post : Int32 → zM → Prop) (M : zM) : Prop :=
  post (-2 : Int32) M
set_option maxHeartbeats 4000000 in
set_option maxRecDepth 100000 in
theorem wX5_breaks_b33 {post : Int32 → zM → Prop}  (hF : CallFix p m c cX5_breaks 4 s args wsX5_breaks RX5) (hSt : zSt G s) (hret : zRi p l e ({ frames := 7, cells := 0, slots := 0, locals := 171 } : Room) s m args below meth c Q cX5_breaks G true O post) (M : zM) (H : Heap) (locs : List Loc) (ls : Array Slot) (hH : zH G true s H locs M O) (hl : lv_has ls 4 []) (h : pX5_breaks_b33 post M) : W p l e ({ frames := 7, cells := 0, slots := 0, locals := 171 } : Room) s m args below meth c H locs 0 0 Q (F0 m 33 ls []) := by
  obtain ⟨hx, hb, hml, hown, hts⟩ := id hF
  unfold pX5_breaks_b33 at h
  refine lv_bipush (v := (-2 : Int32)) hx hb dX5_breaks_33 (by decide) ?_
  exact hret _ _ _ _ _ _ dX5_breaks_35 h hH
def pX5_breaks_b84 (post : Int32 → zM → Prop) (t0 : Int32) (M : zM) : Prop :=
  post t0 M
set_option maxHeartbeats 4000000 in
set_option maxRecDepth 100000 in
theorem wX5_breaks_b84 {post : Int32 → zM → Prop}  (hF : CallFix p m c cX5_breaks 4 s args wsX5_breaks RX5) (hSt : zSt G s) (hret : zRi p l e ({ frames := 7, cells := 0, slots := 0, locals := 171 } : Room) s m args below meth c Q cX5_breaks G true O post) (t0 : Int32) (M : zM) (H : Heap) (locs : List Loc) (ls : Array Slot) (hH : zH G true s H locs M O) (hl : lv_has ls 4 []) (h : pX5_breaks_b84 post t0 M) : W p l e ({ frames := 7, cells := 0, slots := 0, locals := 171 } : Room) s m args below meth c H locs 0 0 Q (F0 m 84 ls [.int t0]) := by
  obtain ⟨hx, hb, hml, hown, hts⟩ := id hF
  unfold pX5_breaks_b84 at h
  exact hret _ _ _ _ _ _ dX5_breaks_84 h hH
def pX5_breaks (M : zM) (x1 : Int32) (x2 : Int32) (x3 : Int32) (post : Int32 → zM → Prop) : Prop :=
  (x3 < 0 → pX5_breaks_b9 post M) ∧ (¬ (x3 < 0) → (x3 ≤ (2 : Int32) → pX5_isBreakCount x1 (fun r12 => (r12 = 0 → pX5_breaks_b33 post M) ∧ (¬ (r12 = 0) → (x2 < 0 → pX5_breaks_b33 post M) ∧ (¬ (x2 < 0) → (x2 ≤ (M.1 1 2) → pX0_search M x1 x2 (fun r42 M42 => (¬ (r42 = 0) → (¬ (x3 = 0) → (¬ (x3 = (1 : Int32)) → pX5_breaks_b84 post (M42.1 5 4) M42) ∧ (x3 = (1 : Int32) → pX5_breaks_b84 post (M42.1 5 3) M42)) ∧ (x3 = 0 → post (M42.1 5 2) M42)) ∧ (r42 = 0 → post (-1 : Int32) M42))) ∧ (¬ (x2 ≤ (M.1 1 2)) → pX5_breaks_b33 post M))))) ∧ (¬ (x3 ≤ (2 : Int32)) → pX5_breaks_b9 post M))
set_option maxHeartbeats 4000000 in
set_option maxRecDepth 100000 in
theorem wX5_breaks {M : zM} {post : Int32 → zM → Prop} (hF : CallFix p m c cX5_breaks 4 s args wsX5_breaks RX5) (hSt : zSt G s) (hret : zRi p l e ({ frames := 7, cells := 0, slots := 0, locals := 171 } : Room) s m args below meth c Q cX5_breaks G true O post) (x1 : Int32) (x2 : Int32) (x3 : Int32) (H : Heap) (locs : List Loc) (ls : Array Slot) (hH : zH G true s H locs M O) (hl : lv_has ls 4 [(0, .ref (G.1 0)), (1, .int x1), (2, .int x2), (3, .int x3)]) (h : pX5_breaks M x1 x2 x3 post) : W p l e ({ frames := 7, cells := 0, slots := 0, locals := 171 } : Room) s m args below meth c H locs 0 0 Q (F0 m 0 ls []) := by
  obtain ⟨hx, hb, hml, hown, hts⟩ := id hF
  unfold pX5_breaks at h
  refine lv_iload_n hx hb dX5_breaks_0 rfl (lv_at hl 3 rfl) ?_
  refine lv_if_lt (tgt := 9) hx hb dX5_breaks_1 (by decide) (fun q1 => ?_) (fun q1 => ?_)
  · have h := h.1 q1
    exact wX5_breaks_b9 hF hSt hret M H locs ls hH (lv_sub hl [] rfl) h
  · have h := h.2 q1
    refine lv_iload_n hx hb dX5_breaks_4 rfl (lv_at hl 3 rfl) ?_
    refine lv_iconst (v := (2 : Int32)) hx hb dX5_breaks_5 (by decide) ?_
    refine lv_icmp_le (tgt := 11) hx hb dX5_breaks_6 (by decide) (fun q6 => ?_) (fun q6 => ?_)
    · have h := h.1 q6
      refine lv_iload_n hx hb dX5_breaks_11 rfl (lv_at hl 1 rfl) ?_
      refine zcalliP hH (va_runS (As := [.int x1]) (rest := []) hF (kX5_isBreakCount l G M O x1 _ h) (va_cwS 1 hts gX5_breaks_X5_isBreakCount rfl rfl rfl zdX5_isBreakCount ⟨Nat.le_of_ble_eq_true rfl, Nat.le_of_ble_eq_true rfl⟩) (zpreS hSt hH [.int x1]) rfl rfl hl.1 rfl (lv_room (Nat.le_of_ble_eq_true rfl)) dX5_breaks_12 ⟨Nat.zero_le _, Nat.zero_le _⟩) (fun r12 H locs h hH => ?_)
      refine lv_if_eq (tgt := 33) hx hb dX5_breaks_15 (by decide) (fun q15 => ?_) (fun q15 => ?_)
      · have h := h.1 q15
        exact wX5_breaks_b33 hF hSt hret M H locs ls hH (lv_sub hl [] rfl) h
      · have h := h.2 q15
        refine lv_iload_n hx hb dX5_breaks_18 rfl (lv_at hl 2 rfl) ?_
        refine lv_if_lt (tgt := 33) hx hb dX5_breaks_19 (by decide) (fun q19 => ?_) (fun q19 => ?_)
        · have h := h.1 q19
          exact wX5_breaks_b33 hF hSt hret M H locs ls hH (lv_sub hl [] rfl) h
        · have h := h.2 q19
          refine lv_iload_n hx hb dX5_breaks_22 rfl (lv_at hl 2 rfl) ?_
          refine lv_aload_n hx hb dX5_breaks_23 rfl (lv_at hl 0 rfl) ?_
          refine zget (v := .ref (G.1 1)) hF hSt hH 0 (by decide) rfl (zE_0 _ _ _) (C := RX5) (T := TX5) (N := 5) rfl znX5_breaks_X5 0 (by decide) (List.mem_of_getElem? (i := 1) rfl) rfl dX5_breaks_24 ?_
          refine zget (v := .int (M.1 1 2)) hF hSt hH 1 (by decide) rfl (zE_1 _ _ _) (C := RX2) (T := TX2) (N := 16) rfl znX5_breaks_X2 2 (by decide) (List.mem_of_getElem? (i := 2) rfl) rfl dX5_breaks_27 ?_
          refine lv_icmp_le (tgt := 36) hx hb dX5_breaks_30 (by decide) (fun q30 => ?_) (fun q30 => ?_)
          · have h := h.1 q30
            refine lv_aload_n hx hb dX5_breaks_36 rfl (lv_at hl 0 rfl) ?_
            refine zget (v := .ref (G.1 5)) hF hSt hH 0 (by decide) rfl (zE_0 _ _ _) (C := RX5) (T := TX5) (N := 5) rfl znX5_breaks_X5 4 (by decide) (List.mem_of_getElem? (i := 3) rfl) rfl dX5_breaks_37 ?_
            refine lv_iload_n hx hb dX5_breaks_40 rfl (lv_at hl 1 rfl) ?_
            refine lv_iload_n hx hb dX5_breaks_41 rfl (lv_at hl 2 rfl) ?_
            refine zcalli hH (va_runV (As := [.int x1, .int x2]) (rest := []) hF (kX0_search l G M O x1 x2 _ h) (cwV 2 hts gX5_breaks_X0_search rfl rfl rfl ⟨rfl, zdX0_search⟩ ⟨Nat.le_of_ble_eq_true rfl, Nat.le_of_ble_eq_true rfl⟩) (zpreV hSt hH 5 (by decide) rfl (zE_5 _ _ _) (q := (RX0, TX0, 5)) rfl [.int x1, .int x2]) rfl rfl hl.1 rfl (lv_room (Nat.le_of_ble_eq_true rfl)) dX5_breaks_42 ⟨Nat.zero_le _, Nat.zero_le _⟩) (fun r42 M42 H locs h hH => ?_)
            refine lv_if_ne (tgt := 50) hx hb dX5_breaks_45 (by decide) (fun q45 => ?_) (fun q45 => ?_)
            · have h := h.1 q45
              refine lv_iload_n hx hb dX5_breaks_50 rfl (lv_at hl 3 rfl) ?_
              refine lv_if_ne (tgt := 62) hx hb dX5_breaks_51 (by decide) (fun q51 => ?_) (fun q51 => ?_)
              · have h := h.1 q51
                refine lv_iload_n hx hb dX5_breaks_62 rfl (lv_at hl 3 rfl) ?_
                refine lv_iconst (v := (1 : Int32)) hx hb dX5_breaks_63 (by decide) ?_
                refine lv_icmp_ne (tgt := 77) hx hb dX5_breaks_64 (by decide) (fun q64 => ?_) (fun q64 => ?_)
                · have h := h.1 q64
                  refine lv_aload_n hx hb dX5_breaks_77 rfl (lv_at hl 0 rfl) ?_
                  refine zget (v := .ref (G.1 5)) hF hSt hH 0 (by decide) rfl (zE_0 _ _ _) (C := RX5) (T := TX5) (N := 5) rfl znX5_breaks_X5 4 (by decide) (List.mem_of_getElem? (i := 3) rfl) rfl dX5_breaks_78 ?_
                  refine zget (v := .int (M42.1 5 4)) hF hSt hH 5 (by decide) rfl (zE_5 _ _ _) (C := RX0) (T := TX0) (N := 5) rfl znX5_breaks_X0 4 (by decide) (List.mem_of_getElem? (i := 6) rfl) rfl dX5_breaks_81 ?_
                  exact wX5_breaks_b84 hF hSt hret (M42.1 5 4) M42 H locs ls hH (lv_sub hl [] rfl) h
                · have h := h.2 q64
                  refine lv_aload_n hx hb dX5_breaks_67 rfl (lv_at hl 0 rfl) ?_
                  refine zget (v := .ref (G.1 5)) hF hSt hH 0 (by decide) rfl (zE_0 _ _ _) (C := RX5) (T := TX5) (N := 5) rfl znX5_breaks_X5 4 (by decide) (List.mem_of_getElem? (i := 3) rfl) rfl dX5_breaks_68 ?_
                  refine zget (v := .int (M42.1 5 3)) hF hSt hH 5 (by decide) rfl (zE_5 _ _ _) (C := RX0) (T := TX0) (N := 5) rfl znX5_breaks_X0 3 (by decide) (List.mem_of_getElem? (i := 5) rfl) rfl dX5_breaks_71 ?_
                  refine lv_goto (tgt := 84) hx hb dX5_breaks_74 (by decide) ?_
                  exact wX5_breaks_b84 hF hSt hret (M42.1 5 3) M42 H locs ls hH (lv_sub hl [] rfl) h
              · have h := h.2 q51
                refine lv_aload_n hx hb dX5_breaks_54 rfl (lv_at hl 0 rfl) ?_
                refine zget (v := .ref (G.1 5)) hF hSt hH 0 (by decide) rfl (zE_0 _ _ _) (C := RX5) (T := TX5) (N := 5) rfl znX5_breaks_X5 4 (by decide) (List.mem_of_getElem? (i := 3) rfl) rfl dX5_breaks_55 ?_
                refine zget (v := .int (M42.1 5 2)) hF hSt hH 5 (by decide) rfl (zE_5 _ _ _) (C := RX0) (T := TX0) (N := 5) rfl znX5_breaks_X0 2 (by decide) (List.mem_of_getElem? (i := 4) rfl) rfl dX5_breaks_58 ?_
                exact hret _ _ _ _ _ _ dX5_breaks_61 h hH
            · have h := h.2 q45
              refine lv_iconst (v := (-1 : Int32)) hx hb dX5_breaks_48 (by decide) ?_
              exact hret _ _ _ _ _ _ dX5_breaks_49 h hH
          · have h := h.2 q30
            exact wX5_breaks_b33 hF hSt hret M H locs ls hH (lv_sub hl [] rfl) h
    · have h := h.2 q6
      exact wX5_breaks_b9 hF hSt hret M H locs ls hH (lv_sub hl [] rfl) h
set_option maxRecDepth 100000 in
theorem kX5_breaks (l : Launch) (G : zG) (M O : zM) (x1 : Int32) (x2 : Int32) (x3 : Int32) (post : Int32 → zM → Prop) (h : pX5_breaks M x1 x2 x3 post) : Met l yX5_breaks wsX5_breaks ({ frames := 7, cells := 0, slots := 0, locals := 171 } : Room) (zPc G true M O [.ref (G.1 0), .int x1, .int x2, .int x3]) (va_Qi post (zB G true O) (zAA G)) 0 0 (zAA G) :=
  zmet_i (by decide) rfl (Nat.le_of_ble_eq_true rfl) (fun hF hSt hret H locs ls hH hl => wX5_breaks hF hSt hret x1 x2 x3 H locs ls hH hl h)
end
theorem zdJ6_bitCount_0f7a4 : yJ6_bitCount_0f7a4.cls ≠ "java/lang/invoke/MethodHandle" ∧ yJ6_bitCount_0f7a4.cls ≠ "java/lang/invoke/VarHandle" ∧ (parseMethodDescriptor yJ6_bitCount_0f7a4.desc).map (fun d => d.parameters.length) = some 1 := by decide +kernel
-- java/lang/Integer bitCount(I)I
section
variable {p : Program} {l : Launch} {e : Env} {s : State} {m : MethodId} {args : Array Value} {below : List Frame} {meth : Method} {c : Code} {Q : State → Prop} {G : zG} {O : zM}
def pJ6_bitCount_0f7a4 (x0 : Int32) (post : Int32 → Prop) : Prop :=
  post ((((((((x0 - (((x0).toUInt32 >>> (((1 : Int32)).toUInt32 &&& Int32.toUInt32 31)).toInt32 &&& (1431655765 : Int32))) &&& (858993459 : Int32)) + ((((x0 - (((x0).toUInt32 >>> (((1 : Int32)).toUInt32 &&& Int32.toUInt32 31)).toInt32 &&& (1431655765 : Int32)))).toUInt32 >>> (((2 : Int32)).toUInt32 &&& Int32.toUInt32 31)).toInt32 &&& (858993459 : Int32))) + (((((x0 - (((x0).toUInt32 >>> (((1 : Int32)).toUInt32 &&& Int32.toUInt32 31)).toInt32 &&& (1431655765 : Int32))) &&& (858993459 : Int32)) + ((((x0 - (((x0).toUInt32 >>> (((1 : Int32)).toUInt32 &&& Int32.toUInt32 31)).toInt32 &&& (1431655765 : Int32)))).toUInt32 >>> (((2 : Int32)).toUInt32 &&& Int32.toUInt32 31)).toInt32 &&& (858993459 : Int32)))).toUInt32 >>> (((4 : Int32)).toUInt32 &&& Int32.toUInt32 31)).toInt32) &&& (252645135 : Int32)) + (((((((x0 - (((x0).toUInt32 >>> (((1 : Int32)).toUInt32 &&& Int32.toUInt32 31)).toInt32 &&& (1431655765 : Int32))) &&& (858993459 : Int32)) + ((((x0 - (((x0).toUInt32 >>> (((1 : Int32)).toUInt32 &&& Int32.toUInt32 31)).toInt32 &&& (1431655765 : Int32)))).toUInt32 >>> (((2 : Int32)).toUInt32 &&& Int32.toUInt32 31)).toInt32 &&& (858993459 : Int32))) + (((((x0 - (((x0).toUInt32 >>> (((1 : Int32)).toUInt32 &&& Int32.toUInt32 31)).toInt32 &&& (1431655765 : Int32))) &&& (858993459 : Int32)) + ((((x0 - (((x0).toUInt32 >>> (((1 : Int32)).toUInt32 &&& Int32.toUInt32 31)).toInt32 &&& (1431655765 : Int32)))).toUInt32 >>> (((2 : Int32)).toUInt32 &&& Int32.toUInt32 31)).toInt32 &&& (858993459 : Int32)))).toUInt32 >>> (((4 : Int32)).toUInt32 &&& Int32.toUInt32 31)).toInt32) &&& (252645135 : Int32))).toUInt32 >>> (((8 : Int32)).toUInt32 &&& Int32.toUInt32 31)).toInt32) + ((((((((x0 - (((x0).toUInt32 >>> (((1 : Int32)).toUInt32 &&& Int32.toUInt32 31)).toInt32 &&& (1431655765 : Int32))) &&& (858993459 : Int32)) + ((((x0 - (((x0).toUInt32 >>> (((1 : Int32)).toUInt32 &&& Int32.toUInt32 31)).toInt32 &&& (1431655765 : Int32)))).toUInt32 >>> (((2 : Int32)).toUInt32 &&& Int32.toUInt32 31)).toInt32 &&& (858993459 : Int32))) + (((((x0 - (((x0).toUInt32 >>> (((1 : Int32)).toUInt32 &&& Int32.toUInt32 31)).toInt32 &&& (1431655765 : Int32))) &&& (858993459 : Int32)) + ((((x0 - (((x0).toUInt32 >>> (((1 : Int32)).toUInt32 &&& Int32.toUInt32 31)).toInt32 &&& (1431655765 : Int32)))).toUInt32 >>> (((2 : Int32)).toUInt32 &&& Int32.toUInt32 31)).toInt32 &&& (858993459 : Int32)))).toUInt32 >>> (((4 : Int32)).toUInt32 &&& Int32.toUInt32 31)).toInt32) &&& (252645135 : Int32)) + (((((((x0 - (((x0).toUInt32 >>> (((1 : Int32)).toUInt32 &&& Int32.toUInt32 31)).toInt32 &&& (1431655765 : Int32))) &&& (858993459 : Int32)) + ((((x0 - (((x0).toUInt32 >>> (((1 : Int32)).toUInt32 &&& Int32.toUInt32 31)).toInt32 &&& (1431655765 : Int32)))).toUInt32 >>> (((2 : Int32)).toUInt32 &&& Int32.toUInt32 31)).toInt32 &&& (858993459 : Int32))) + (((((x0 - (((x0).toUInt32 >>> (((1 : Int32)).toUInt32 &&& Int32.toUInt32 31)).toInt32 &&& (1431655765 : Int32))) &&& (858993459 : Int32)) + ((((x0 - (((x0).toUInt32 >>> (((1 : Int32)).toUInt32 &&& Int32.toUInt32 31)).toInt32 &&& (1431655765 : Int32)))).toUInt32 >>> (((2 : Int32)).toUInt32 &&& Int32.toUInt32 31)).toInt32 &&& (858993459 : Int32)))).toUInt32 >>> (((4 : Int32)).toUInt32 &&& Int32.toUInt32 31)).toInt32) &&& (252645135 : Int32))).toUInt32 >>> (((8 : Int32)).toUInt32 &&& Int32.toUInt32 31)).toInt32)).toUInt32 >>> (((16 : Int32)).toUInt32 &&& Int32.toUInt32 31)).toInt32) &&& (63 : Int32))
set_option maxHeartbeats 4000000 in
set_option maxRecDepth 100000 in
theorem wJ6_bitCount_0f7a4 {M : zM} {post : Int32 → Prop} (hF : CallFix p m c cJ6_bitCount_0f7a4 1 s args wsJ6_bitCount_0f7a4 RJ6) (hSt : zSt G s) (hret : zRi p l e ({ frames := 0, cells := 0, slots := 0, locals := 0 } : Room) s m args below meth c Q cJ6_bitCount_0f7a4 G true O (fun r M1 => M1 = M ∧ post r)) (x0 : Int32) (H : Heap) (locs : List Loc) (ls : Array Slot) (hH : zH G true s H locs M O) (hl : lv_has ls 1 [(0, .int x0)]) (h : pJ6_bitCount_0f7a4 x0 post) : W p l e ({ frames := 0, cells := 0, slots := 0, locals := 0 } : Room) s m args below meth c H locs 0 0 Q (F0 m 0 ls []) := by
  obtain ⟨hx, hb, hml, hown, hts⟩ := id hF
  unfold pJ6_bitCount_0f7a4 at h
  refine lv_iload_n hx hb dJ6_bitCount_0f7a4_0 rfl (lv_at hl 0 rfl) ?_
  refine lv_iload_n hx hb dJ6_bitCount_0f7a4_1 rfl (lv_at hl 0 rfl) ?_
  refine lv_iconst (v := (1 : Int32)) hx hb dJ6_bitCount_0f7a4_2 (by decide) ?_
  refine lv_iushr hx hb dJ6_bitCount_0f7a4_3 rfl ?_
  refine lv_ldcw (v := (1431655765 : Int32)) hx hb hown (hts _ (List.mem_of_getElem? (i := 1) rfl)) dJ6_bitCount_0f7a4_4 ?_
  refine lv_iand hx hb dJ6_bitCount_0f7a4_7 ?_
  refine lv_isub hx hb dJ6_bitCount_0f7a4_8 ?_
  refine lv_istore_n (lv' := [(0, .int (x0 - (((x0).toUInt32 >>> (((1 : Int32)).toUInt32 &&& Int32.toUInt32 31)).toInt32 &&& (1431655765 : Int32))))]) hx hb dJ6_bitCount_0f7a4_9 rfl hl (by decide) rfl (fun ls hl => ?_)
  refine lv_iload_n hx hb dJ6_bitCount_0f7a4_10 rfl (lv_at hl 0 rfl) ?_
  refine lv_ldcw (v := (858993459 : Int32)) hx hb hown (hts _ (List.mem_of_getElem? (i := 2) rfl)) dJ6_bitCount_0f7a4_11 ?_
  refine lv_iand hx hb dJ6_bitCount_0f7a4_14 ?_
  refine lv_iload_n hx hb dJ6_bitCount_0f7a4_15 rfl (lv_at hl 0 rfl) ?_
  refine lv_iconst (v := (2 : Int32)) hx hb dJ6_bitCount_0f7a4_16 (by decide) ?_
  refine lv_iushr hx hb dJ6_bitCount_0f7a4_17 rfl ?_
  refine lv_ldcw (v := (858993459 : Int32)) hx hb hown (hts _ (List.mem_of_getElem? (i := 2) rfl)) dJ6_bitCount_0f7a4_18 ?_
  refine lv_iand hx hb dJ6_bitCount_0f7a4_21 ?_
  refine lv_iadd hx hb dJ6_bitCount_0f7a4_22 ?_
  refine lv_istore_n (lv' := [(0, .int (((x0 - (((x0).toUInt32 >>> (((1 : Int32)).toUInt32 &&& Int32.toUInt32 31)).toInt32 &&& (1431655765 : Int32))) &&& (858993459 : Int32)) + ((((x0 - (((x0).toUInt32 >>> (((1 : Int32)).toUInt32 &&& Int32.toUInt32 31)).toInt32 &&& (1431655765 : Int32)))).toUInt32 >>> (((2 : Int32)).toUInt32 &&& Int32.toUInt32 31)).toInt32 &&& (858993459 : Int32))))]) hx hb dJ6_bitCount_0f7a4_23 rfl hl (by decide) rfl (fun ls hl => ?_)
  refine lv_iload_n hx hb dJ6_bitCount_0f7a4_24 rfl (lv_at hl 0 rfl) ?_
  refine lv_iload_n hx hb dJ6_bitCount_0f7a4_25 rfl (lv_at hl 0 rfl) ?_
  refine lv_iconst (v := (4 : Int32)) hx hb dJ6_bitCount_0f7a4_26 (by decide) ?_
  refine lv_iushr hx hb dJ6_bitCount_0f7a4_27 rfl ?_
  refine lv_iadd hx hb dJ6_bitCount_0f7a4_28 ?_
  refine lv_ldcw (v := (252645135 : Int32)) hx hb hown (hts _ (List.mem_of_getElem? (i := 3) rfl)) dJ6_bitCount_0f7a4_29 ?_
  refine lv_iand hx hb dJ6_bitCount_0f7a4_32 ?_
  refine lv_istore_n (lv' := [(0, .int (((((x0 - (((x0).toUInt32 >>> (((1 : Int32)).toUInt32 &&& Int32.toUInt32 31)).toInt32 &&& (1431655765 : Int32))) &&& (858993459 : Int32)) + ((((x0 - (((x0).toUInt32 >>> (((1 : Int32)).toUInt32 &&& Int32.toUInt32 31)).toInt32 &&& (1431655765 : Int32)))).toUInt32 >>> (((2 : Int32)).toUInt32 &&& Int32.toUInt32 31)).toInt32 &&& (858993459 : Int32))) + (((((x0 - (((x0).toUInt32 >>> (((1 : Int32)).toUInt32 &&& Int32.toUInt32 31)).toInt32 &&& (1431655765 : Int32))) &&& (858993459 : Int32)) + ((((x0 - (((x0).toUInt32 >>> (((1 : Int32)).toUInt32 &&& Int32.toUInt32 31)).toInt32 &&& (1431655765 : Int32)))).toUInt32 >>> (((2 : Int32)).toUInt32 &&& Int32.toUInt32 31)).toInt32 &&& (858993459 : Int32)))).toUInt32 >>> (((4 : Int32)).toUInt32 &&& Int32.toUInt32 31)).toInt32) &&& (252645135 : Int32)))]) hx hb dJ6_bitCount_0f7a4_33 rfl hl (by decide) rfl (fun ls hl => ?_)
  refine lv_iload_n hx hb dJ6_bitCount_0f7a4_34 rfl (lv_at hl 0 rfl) ?_
  refine lv_iload_n hx hb dJ6_bitCount_0f7a4_35 rfl (lv_at hl 0 rfl) ?_
  refine lv_bipush (v := (8 : Int32)) hx hb dJ6_bitCount_0f7a4_36 (by decide) ?_
  refine lv_iushr hx hb dJ6_bitCount_0f7a4_38 rfl ?_
  refine lv_iadd hx hb dJ6_bitCount_0f7a4_39 ?_
  refine lv_istore_n (lv' := [(0, .int ((((((x0 - (((x0).toUInt32 >>> (((1 : Int32)).toUInt32 &&& Int32.toUInt32 31)).toInt32 &&& (1431655765 : Int32))) &&& (858993459 : Int32)) + ((((x0 - (((x0).toUInt32 >>> (((1 : Int32)).toUInt32 &&& Int32.toUInt32 31)).toInt32 &&& (1431655765 : Int32)))).toUInt32 >>> (((2 : Int32)).toUInt32 &&& Int32.toUInt32 31)).toInt32 &&& (858993459 : Int32))) + (((((x0 - (((x0).toUInt32 >>> (((1 : Int32)).toUInt32 &&& Int32.toUInt32 31)).toInt32 &&& (1431655765 : Int32))) &&& (858993459 : Int32)) + ((((x0 - (((x0).toUInt32 >>> (((1 : Int32)).toUInt32 &&& Int32.toUInt32 31)).toInt32 &&& (1431655765 : Int32)))).toUInt32 >>> (((2 : Int32)).toUInt32 &&& Int32.toUInt32 31)).toInt32 &&& (858993459 : Int32)))).toUInt32 >>> (((4 : Int32)).toUInt32 &&& Int32.toUInt32 31)).toInt32) &&& (252645135 : Int32)) + (((((((x0 - (((x0).toUInt32 >>> (((1 : Int32)).toUInt32 &&& Int32.toUInt32 31)).toInt32 &&& (1431655765 : Int32))) &&& (858993459 : Int32)) + ((((x0 - (((x0).toUInt32 >>> (((1 : Int32)).toUInt32 &&& Int32.toUInt32 31)).toInt32 &&& (1431655765 : Int32)))).toUInt32 >>> (((2 : Int32)).toUInt32 &&& Int32.toUInt32 31)).toInt32 &&& (858993459 : Int32))) + (((((x0 - (((x0).toUInt32 >>> (((1 : Int32)).toUInt32 &&& Int32.toUInt32 31)).toInt32 &&& (1431655765 : Int32))) &&& (858993459 : Int32)) + ((((x0 - (((x0).toUInt32 >>> (((1 : Int32)).toUInt32 &&& Int32.toUInt32 31)).toInt32 &&& (1431655765 : Int32)))).toUInt32 >>> (((2 : Int32)).toUInt32 &&& Int32.toUInt32 31)).toInt32 &&& (858993459 : Int32)))).toUInt32 >>> (((4 : Int32)).toUInt32 &&& Int32.toUInt32 31)).toInt32) &&& (252645135 : Int32))).toUInt32 >>> (((8 : Int32)).toUInt32 &&& Int32.toUInt32 31)).toInt32))]) hx hb dJ6_bitCount_0f7a4_40 rfl hl (by decide) rfl (fun ls hl => ?_)
  refine lv_iload_n hx hb dJ6_bitCount_0f7a4_41 rfl (lv_at hl 0 rfl) ?_
  refine lv_iload_n hx hb dJ6_bitCount_0f7a4_42 rfl (lv_at hl 0 rfl) ?_
  refine lv_bipush (v := (16 : Int32)) hx hb dJ6_bitCount_0f7a4_43 (by decide) ?_
  refine lv_iushr hx hb dJ6_bitCount_0f7a4_45 rfl ?_
  refine lv_iadd hx hb dJ6_bitCount_0f7a4_46 ?_
  refine lv_istore_n (lv' := [(0, .int (((((((x0 - (((x0).toUInt32 >>> (((1 : Int32)).toUInt32 &&& Int32.toUInt32 31)).toInt32 &&& (1431655765 : Int32))) &&& (858993459 : Int32)) + ((((x0 - (((x0).toUInt32 >>> (((1 : Int32)).toUInt32 &&& Int32.toUInt32 31)).toInt32 &&& (1431655765 : Int32)))).toUInt32 >>> (((2 : Int32)).toUInt32 &&& Int32.toUInt32 31)).toInt32 &&& (858993459 : Int32))) + (((((x0 - (((x0).toUInt32 >>> (((1 : Int32)).toUInt32 &&& Int32.toUInt32 31)).toInt32 &&& (1431655765 : Int32))) &&& (858993459 : Int32)) + ((((x0 - (((x0).toUInt32 >>> (((1 : Int32)).toUInt32 &&& Int32.toUInt32 31)).toInt32 &&& (1431655765 : Int32)))).toUInt32 >>> (((2 : Int32)).toUInt32 &&& Int32.toUInt32 31)).toInt32 &&& (858993459 : Int32)))).toUInt32 >>> (((4 : Int32)).toUInt32 &&& Int32.toUInt32 31)).toInt32) &&& (252645135 : Int32)) + (((((((x0 - (((x0).toUInt32 >>> (((1 : Int32)).toUInt32 &&& Int32.toUInt32 31)).toInt32 &&& (1431655765 : Int32))) &&& (858993459 : Int32)) + ((((x0 - (((x0).toUInt32 >>> (((1 : Int32)).toUInt32 &&& Int32.toUInt32 31)).toInt32 &&& (1431655765 : Int32)))).toUInt32 >>> (((2 : Int32)).toUInt32 &&& Int32.toUInt32 31)).toInt32 &&& (858993459 : Int32))) + (((((x0 - (((x0).toUInt32 >>> (((1 : Int32)).toUInt32 &&& Int32.toUInt32 31)).toInt32 &&& (1431655765 : Int32))) &&& (858993459 : Int32)) + ((((x0 - (((x0).toUInt32 >>> (((1 : Int32)).toUInt32 &&& Int32.toUInt32 31)).toInt32 &&& (1431655765 : Int32)))).toUInt32 >>> (((2 : Int32)).toUInt32 &&& Int32.toUInt32 31)).toInt32 &&& (858993459 : Int32)))).toUInt32 >>> (((4 : Int32)).toUInt32 &&& Int32.toUInt32 31)).toInt32) &&& (252645135 : Int32))).toUInt32 >>> (((8 : Int32)).toUInt32 &&& Int32.toUInt32 31)).toInt32) + ((((((((x0 - (((x0).toUInt32 >>> (((1 : Int32)).toUInt32 &&& Int32.toUInt32 31)).toInt32 &&& (1431655765 : Int32))) &&& (858993459 : Int32)) + ((((x0 - (((x0).toUInt32 >>> (((1 : Int32)).toUInt32 &&& Int32.toUInt32 31)).toInt32 &&& (1431655765 : Int32)))).toUInt32 >>> (((2 : Int32)).toUInt32 &&& Int32.toUInt32 31)).toInt32 &&& (858993459 : Int32))) + (((((x0 - (((x0).toUInt32 >>> (((1 : Int32)).toUInt32 &&& Int32.toUInt32 31)).toInt32 &&& (1431655765 : Int32))) &&& (858993459 : Int32)) + ((((x0 - (((x0).toUInt32 >>> (((1 : Int32)).toUInt32 &&& Int32.toUInt32 31)).toInt32 &&& (1431655765 : Int32)))).toUInt32 >>> (((2 : Int32)).toUInt32 &&& Int32.toUInt32 31)).toInt32 &&& (858993459 : Int32)))).toUInt32 >>> (((4 : Int32)).toUInt32 &&& Int32.toUInt32 31)).toInt32) &&& (252645135 : Int32)) + (((((((x0 - (((x0).toUInt32 >>> (((1 : Int32)).toUInt32 &&& Int32.toUInt32 31)).toInt32 &&& (1431655765 : Int32))) &&& (858993459 : Int32)) + ((((x0 - (((x0).toUInt32 >>> (((1 : Int32)).toUInt32 &&& Int32.toUInt32 31)).toInt32 &&& (1431655765 : Int32)))).toUInt32 >>> (((2 : Int32)).toUInt32 &&& Int32.toUInt32 31)).toInt32 &&& (858993459 : Int32))) + (((((x0 - (((x0).toUInt32 >>> (((1 : Int32)).toUInt32 &&& Int32.toUInt32 31)).toInt32 &&& (1431655765 : Int32))) &&& (858993459 : Int32)) + ((((x0 - (((x0).toUInt32 >>> (((1 : Int32)).toUInt32 &&& Int32.toUInt32 31)).toInt32 &&& (1431655765 : Int32)))).toUInt32 >>> (((2 : Int32)).toUInt32 &&& Int32.toUInt32 31)).toInt32 &&& (858993459 : Int32)))).toUInt32 >>> (((4 : Int32)).toUInt32 &&& Int32.toUInt32 31)).toInt32) &&& (252645135 : Int32))).toUInt32 >>> (((8 : Int32)).toUInt32 &&& Int32.toUInt32 31)).toInt32)).toUInt32 >>> (((16 : Int32)).toUInt32 &&& Int32.toUInt32 31)).toInt32))]) hx hb dJ6_bitCount_0f7a4_47 rfl hl (by decide) rfl (fun ls hl => ?_)
  refine lv_iload_n hx hb dJ6_bitCount_0f7a4_48 rfl (lv_at hl 0 rfl) ?_
  refine lv_bipush (v := (63 : Int32)) hx hb dJ6_bitCount_0f7a4_49 (by decide) ?_
  refine lv_iand hx hb dJ6_bitCount_0f7a4_51 ?_
  exact hret _ _ _ _ _ _ dJ6_bitCount_0f7a4_52 ⟨rfl, h⟩ hH
set_option maxRecDepth 100000 in
theorem kJ6_bitCount_0f7a4 (l : Launch) (G : zG) (M O : zM) (x0 : Int32) (post : Int32 → Prop) (h : pJ6_bitCount_0f7a4 x0 post) : Met l yJ6_bitCount_0f7a4 wsJ6_bitCount_0f7a4 ({ frames := 0, cells := 0, slots := 0, locals := 0 } : Room) (zPc G true M O [.int x0]) (va_Qi (fun r M1 => M1 = M ∧ post r) (zB G true O) (zAA G)) 0 0 (zAA G) :=
  zmet_i (by decide) rfl (Nat.le_of_ble_eq_true rfl) (fun hF hSt hret H locs ls hH hl => wJ6_bitCount_0f7a4 hF hSt hret x0 H locs ls hH hl h)
end
theorem znX2_passingLines_X2 : ∀ w ∈ wsX20, w ∈ wsX2_passingLines := fun _ h => List.mem_cons_of_mem _ (List.mem_append_right _ h)
theorem zdX2_passingLines : yX2_passingLines.cls ≠ "java/lang/invoke/MethodHandle" ∧ yX2_passingLines.cls ≠ "java/lang/invoke/VarHandle" ∧ (parseMethodDescriptor yX2_passingLines.desc).map (fun d => d.parameters.length) = some 0 := by decide +kernel
-- MixingRelays$Net passingLines()I
section
variable {p : Program} {l : Launch} {e : Env} {s : State} {m : MethodId} {args : Array Value} {below : List Frame} {meth : Method} {c : Code} {Q : State → Prop} {G : zG} {O : zM}
def pX2_passingLines_b4 (M : zM) (post : Int32 → Prop) (ag4 : Int32 → Int32 → Prop) (x1 : Int32) (x2 : Int32) : Prop :=
  ((M.1 1 1) ≤ x2 → post x1) ∧ (¬ ((M.1 1 1) ≤ x2) → pX2_isPassing M x2 (fun r15 => pX5_asFlag r15 (fun r18 => ag4 (x1 + r18) (x2 + (1 : Int32)))))
set_option maxHeartbeats 4000000 in
set_option maxRecDepth 100000 in
theorem wX2_passingLines_b4 {M : zM} {post : Int32 → Prop} {ag4 : Int32 → Int32 → Prop} (hF : CallFix p m c cX2_passingLines 3 s args wsX2_passingLines RX2) (hSt : zSt G s) (hret : zRi p l e ({ frames := 2, cells := 0, slots := 0, locals := 44 } : Room) s m args below meth c Q cX2_passingLines G true O (fun r M1 => M1 = M ∧ post r)) (hag4 : ∀ (x1 : Int32) (x2 : Int32) (H : Heap) (locs : List Loc) (ls : Array Slot), ag4 x1 x2 → zH G true s H locs M O → lv_has ls 3 [(0, .ref (G.1 1)), (1, .int x1), (2, .int x2)] → W p l e ({ frames := 2, cells := 0, slots := 0, locals := 44 } : Room) s m args below meth c H locs 0 0 Q (F0 m 4 ls [])) (x1 : Int32) (x2 : Int32) (H : Heap) (locs : List Loc) (ls : Array Slot) (hH : zH G true s H locs M O) (hl : lv_has ls 3 [(0, .ref (G.1 1)), (1, .int x1), (2, .int x2)]) (h : pX2_passingLines_b4 M post ag4 x1 x2) : W p l e ({ frames := 2, cells := 0, slots := 0, locals := 44 } : Room) s m args below meth c H locs 0 0 Q (F0 m 4 ls []) := by
  obtain ⟨hx, hb, hml, hown, hts⟩ := id hF
  unfold pX2_passingLines_b4 at h
  refine lv_iload_n hx hb dX2_passingLines_4 rfl (lv_at hl 2 rfl) ?_
  refine lv_aload_n hx hb dX2_passingLines_5 rfl (lv_at hl 0 rfl) ?_
  refine zget (v := .int (M.1 1 1)) hF hSt hH 1 (by decide) rfl (zE_1 _ _ _) (C := RX2) (T := TX2) (N := 16) rfl znX2_passingLines_X2 1 (by decide) (List.mem_of_getElem? (i := 1) rfl) rfl dX2_passingLines_6 ?_
  refine lv_icmp_ge (tgt := 29) hx hb dX2_passingLines_9 (by decide) (fun q9 => ?_) (fun q9 => ?_)
  · have h := h.1 q9
    refine lv_iload_n hx hb dX2_passingLines_29 rfl (lv_at hl 1 rfl) ?_
    exact hret _ _ _ _ _ _ dX2_passingLines_30 ⟨rfl, h⟩ hH
  · have h := h.2 q9
    refine lv_iload_n hx hb dX2_passingLines_12 rfl (lv_at hl 1 rfl) ?_
    refine lv_aload_n hx hb dX2_passingLines_13 rfl (lv_at hl 0 rfl) ?_
    refine lv_iload_n hx hb dX2_passingLines_14 rfl (lv_at hl 2 rfl) ?_
    refine zcalliP hH (va_runV (As := [.int x2]) (rest := [.int x1]) hF (kX2_isPassing l G M O x2 _ h) (cwV 1 hts gX2_passingLines_X2_isPassing rfl rfl rfl ⟨rfl, zdX2_isPassing⟩ ⟨Nat.le_of_ble_eq_true rfl, Nat.le_of_ble_eq_true rfl⟩) (zpreV hSt hH 1 (by decide) rfl (zE_1 _ _ _) (q := (RX2, TX2, 16)) rfl [.int x2]) rfl rfl hl.1 rfl (lv_room (Nat.le_of_ble_eq_true rfl)) dX2_passingLines_15 ⟨Nat.zero_le _, Nat.zero_le _⟩) (fun r15 H locs h hH => ?_)
    refine zcalliP hH (va_runSN (As := [.int r15]) (rest := [.int x1]) hF (kX5_asFlag l G M O r15 _ h) ⟨va_cnB 1 hts gX2_passingLines_X5_asFlag_n70 rfl rfl rfl (hSt.2.2.1 _ zNest_X2_70) (hts _ (List.mem_of_getElem? (i := 16) rfl)) zdX5_asFlag ⟨Nat.le_of_ble_eq_true rfl, Nat.le_of_ble_eq_true rfl⟩, hts _ (List.mem_of_getElem? (i := 18) rfl), trivial⟩ (zpreS hSt hH [.int r15]) rfl rfl hl.1 rfl (lv_room (Nat.le_of_ble_eq_true rfl)) dX2_passingLines_18 ⟨Nat.zero_le _, Nat.zero_le _⟩) (fun r18 H locs h hH => ?_)
    refine lv_iadd hx hb dX2_passingLines_21 ?_
    refine lv_istore_n (lv' := [(1, .int (x1 + r18)), (0, .ref (G.1 1)), (2, .int x2)]) hx hb dX2_passingLines_22 rfl hl (by decide) rfl (fun ls hl => ?_)
    refine lv_iinc (v := (x2 + (1 : Int32))) (lv' := [(2, .int (x2 + (1 : Int32))), (1, .int (x1 + r18)), (0, .ref (G.1 1))]) hx hb dX2_passingLines_23 hl (k := 2) rfl rfl (by decide) rfl (fun ls hl => ?_)
    refine lv_goto (tgt := 4) hx hb dX2_passingLines_26 (by decide) ?_
    exact hag4 (x1 + r18) (x2 + (1 : Int32)) H locs ls h hH (lv_sub hl [2, 1, 0] rfl)
def pX2_passingLines_L4 (M : zM) (post : Int32 → Prop) (x1 : Int32) (x2 : Int32) : Prop :=
  ∃ I : Nat → Int32 → Int32 → Prop, (∃ n, I n x1 x2) ∧ ∀ n x1 x2, I n x1 x2 → pX2_passingLines_b4 M post (fun x1 x2 => ∃ k, k < n ∧ I k x1 x2) x1 x2
set_option maxHeartbeats 4000000 in
theorem wX2_passingLines_L4 {M : zM} {post : Int32 → Prop}  (hF : CallFix p m c cX2_passingLines 3 s args wsX2_passingLines RX2) (hSt : zSt G s) (hret : zRi p l e ({ frames := 2, cells := 0, slots := 0, locals := 44 } : Room) s m args below meth c Q cX2_passingLines G true O (fun r M1 => M1 = M ∧ post r)) (x1 : Int32) (x2 : Int32) (H : Heap) (locs : List Loc) (ls : Array Slot) (hH : zH G true s H locs M O) (hl : lv_has ls 3 [(0, .ref (G.1 1)), (1, .int x1), (2, .int x2)]) (h : pX2_passingLines_L4 M post x1 x2) : W p l e ({ frames := 2, cells := 0, slots := 0, locals := 44 } : Room) s m args below meth c H locs 0 0 Q (F0 m 4 ls []) := by
  obtain ⟨I, ⟨n, hI⟩, hs⟩ := h
  have key : ∀ (n : Nat) (x1 : Int32) (x2 : Int32) (H : Heap) (locs : List Loc) (ls : Array Slot), I n x1 x2 → zH G true s H locs M O → lv_has ls 3 [(0, .ref (G.1 1)), (1, .int x1), (2, .int x2)] → W p l e ({ frames := 2, cells := 0, slots := 0, locals := 44 } : Room) s m args below meth c H locs 0 0 Q (F0 m 4 ls []) := by
    intro n
    induction n using Nat.strongRecOn with
    | _ n ih =>
      intro x1 x2 H locs ls hI hH hl
      exact wX2_passingLines_b4 hF hSt hret (fun x1 x2 H locs ls h hH hl => by obtain ⟨k, hk, hI⟩ := h; exact ih k hk x1 x2 H locs ls hI hH hl) x1 x2 H locs ls hH hl (hs n x1 x2 hI)
  exact key n x1 x2 H locs ls hI hH hl
def pX2_passingLines (M : zM)  (post : Int32 → Prop) : Prop :=
  pX2_passingLines_L4 M post (0 : Int32) (0 : Int32)
set_option maxHeartbeats 4000000 in
set_option maxRecDepth 100000 in
theorem wX2_passingLines {M : zM} {post : Int32 → Prop} (hF : CallFix p m c cX2_passingLines 3 s args wsX2_passingLines RX2) (hSt : zSt G s) (hret : zRi p l e ({ frames := 2, cells := 0, slots := 0, locals := 44 } : Room) s m args below meth c Q cX2_passingLines G true O (fun r M1 => M1 = M ∧ post r))  (H : Heap) (locs : List Loc) (ls : Array Slot) (hH : zH G true s H locs M O) (hl : lv_has ls 3 [(0, .ref (G.1 1))]) (h : pX2_passingLines M  post) : W p l e ({ frames := 2, cells := 0, slots := 0, locals := 44 } : Room) s m args below meth c H locs 0 0 Q (F0 m 0 ls []) := by
  obtain ⟨hx, hb, hml, hown, hts⟩ := id hF
  unfold pX2_passingLines at h
  refine lv_iconst (v := (0 : Int32)) hx hb dX2_passingLines_0 (by decide) ?_
  refine lv_istore_n (lv' := [(1, .int (0 : Int32)), (0, .ref (G.1 1))]) hx hb dX2_passingLines_1 rfl hl (by decide) rfl (fun ls hl => ?_)
  refine lv_iconst (v := (0 : Int32)) hx hb dX2_passingLines_2 (by decide) ?_
  refine lv_istore_n (lv' := [(2, .int (0 : Int32)), (1, .int (0 : Int32)), (0, .ref (G.1 1))]) hx hb dX2_passingLines_3 rfl hl (by decide) rfl (fun ls hl => ?_)
  exact wX2_passingLines_L4 hF hSt hret (0 : Int32) (0 : Int32) H locs ls hH (lv_sub hl [2, 1, 0] rfl) h
set_option maxRecDepth 100000 in
theorem kX2_passingLines (l : Launch) (G : zG) (M O : zM)  (post : Int32 → Prop) (h : pX2_passingLines M  post) : Met l yX2_passingLines wsX2_passingLines ({ frames := 2, cells := 0, slots := 0, locals := 44 } : Room) (zPc G true M O [.ref (G.1 1)]) (va_Qi (fun r M1 => M1 = M ∧ post r) (zB G true O) (zAA G)) 0 0 (zAA G) :=
  zmet_i (by decide) rfl (Nat.le_of_ble_eq_true rfl) (fun hF hSt hret H locs ls hH hl => wX2_passingLines hF hSt hret  H locs ls hH hl h)
end
theorem znX2_allFactors_X2 : ∀ w ∈ wsX20, w ∈ wsX2_allFactors := fun _ h => List.mem_cons_of_mem _ (List.mem_append_right _ h)
theorem zdX2_allFactors : yX2_allFactors.cls ≠ "java/lang/invoke/MethodHandle" ∧ yX2_allFactors.cls ≠ "java/lang/invoke/VarHandle" ∧ (parseMethodDescriptor yX2_allFactors.desc).map (fun d => d.parameters.length) = some 0 := by decide +kernel
-- MixingRelays$Net allFactors()I
section
variable {p : Program} {l : Launch} {e : Env} {s : State} {m : MethodId} {args : Array Value} {below : List Frame} {meth : Method} {c : Code} {Q : State → Prop} {G : zG} {O : zM}
def pX2_allFactors_b4 (M : zM) (post : Int32 → Prop) (ag4 : Int32 → Int32 → Prop) (x1 : Int32) (x2 : Int32) : Prop :=
  ((M.1 1 1) ≤ x2 → post x1) ∧ (¬ ((M.1 1 1) ≤ x2) → pX2_insOf M x2 (fun r15 => ag4 (x1 + r15) (x2 + (1 : Int32))))
set_option maxHeartbeats 4000000 in
set_option maxRecDepth 100000 in
theorem wX2_allFactors_b4 {M : zM} {post : Int32 → Prop} {ag4 : Int32 → Int32 → Prop} (hF : CallFix p m c cX2_allFactors 3 s args wsX2_allFactors RX2) (hSt : zSt G s) (hret : zRi p l e ({ frames := 1, cells := 0, slots := 0, locals := 21 } : Room) s m args below meth c Q cX2_allFactors G true O (fun r M1 => M1 = M ∧ post r)) (hag4 : ∀ (x1 : Int32) (x2 : Int32) (H : Heap) (locs : List Loc) (ls : Array Slot), ag4 x1 x2 → zH G true s H locs M O → lv_has ls 3 [(0, .ref (G.1 1)), (1, .int x1), (2, .int x2)] → W p l e ({ frames := 1, cells := 0, slots := 0, locals := 21 } : Room) s m args below meth c H locs 0 0 Q (F0 m 4 ls [])) (x1 : Int32) (x2 : Int32) (H : Heap) (locs : List Loc) (ls : Array Slot) (hH : zH G true s H locs M O) (hl : lv_has ls 3 [(0, .ref (G.1 1)), (1, .int x1), (2, .int x2)]) (h : pX2_allFactors_b4 M post ag4 x1 x2) : W p l e ({ frames := 1, cells := 0, slots := 0, locals := 21 } : Room) s m args below meth c H locs 0 0 Q (F0 m 4 ls []) := by
  obtain ⟨hx, hb, hml, hown, hts⟩ := id hF
  unfold pX2_allFactors_b4 at h
  refine lv_iload_n hx hb dX2_allFactors_4 rfl (lv_at hl 2 rfl) ?_
  refine lv_aload_n hx hb dX2_allFactors_5 rfl (lv_at hl 0 rfl) ?_
  refine zget (v := .int (M.1 1 1)) hF hSt hH 1 (by decide) rfl (zE_1 _ _ _) (C := RX2) (T := TX2) (N := 16) rfl znX2_allFactors_X2 1 (by decide) (List.mem_of_getElem? (i := 1) rfl) rfl dX2_allFactors_6 ?_
  refine lv_icmp_ge (tgt := 26) hx hb dX2_allFactors_9 (by decide) (fun q9 => ?_) (fun q9 => ?_)
  · have h := h.1 q9
    refine lv_iload_n hx hb dX2_allFactors_26 rfl (lv_at hl 1 rfl) ?_
    exact hret _ _ _ _ _ _ dX2_allFactors_27 ⟨rfl, h⟩ hH
  · have h := h.2 q9
    refine lv_iload_n hx hb dX2_allFactors_12 rfl (lv_at hl 1 rfl) ?_
    refine lv_aload_n hx hb dX2_allFactors_13 rfl (lv_at hl 0 rfl) ?_
    refine lv_iload_n hx hb dX2_allFactors_14 rfl (lv_at hl 2 rfl) ?_
    refine zcalliP hH (va_runV (As := [.int x2]) (rest := [.int x1]) hF (kX2_insOf l G M O x2 _ h) (cwV 1 hts gX2_allFactors_X2_insOf rfl rfl rfl ⟨rfl, zdX2_insOf⟩ ⟨Nat.le_of_ble_eq_true rfl, Nat.le_of_ble_eq_true rfl⟩) (zpreV hSt hH 1 (by decide) rfl (zE_1 _ _ _) (q := (RX2, TX2, 16)) rfl [.int x2]) rfl rfl hl.1 rfl (lv_room (Nat.le_of_ble_eq_true rfl)) dX2_allFactors_15 ⟨Nat.zero_le _, Nat.zero_le _⟩) (fun r15 H locs h hH => ?_)
    refine lv_iadd hx hb dX2_allFactors_18 ?_
    refine lv_istore_n (lv' := [(1, .int (x1 + r15)), (0, .ref (G.1 1)), (2, .int x2)]) hx hb dX2_allFactors_19 rfl hl (by decide) rfl (fun ls hl => ?_)
    refine lv_iinc (v := (x2 + (1 : Int32))) (lv' := [(2, .int (x2 + (1 : Int32))), (1, .int (x1 + r15)), (0, .ref (G.1 1))]) hx hb dX2_allFactors_20 hl (k := 2) rfl rfl (by decide) rfl (fun ls hl => ?_)
    refine lv_goto (tgt := 4) hx hb dX2_allFactors_23 (by decide) ?_
    exact hag4 (x1 + r15) (x2 + (1 : Int32)) H locs ls h hH (lv_sub hl [2, 1, 0] rfl)
def pX2_allFactors_L4 (M : zM) (post : Int32 → Prop) (x1 : Int32) (x2 : Int32) : Prop :=
  ∃ I : Nat → Int32 → Int32 → Prop, (∃ n, I n x1 x2) ∧ ∀ n x1 x2, I n x1 x2 → pX2_allFactors_b4 M post (fun x1 x2 => ∃ k, k < n ∧ I k x1 x2) x1 x2
set_option maxHeartbeats 4000000 in
theorem wX2_allFactors_L4 {M : zM} {post : Int32 → Prop}  (hF : CallFix p m c cX2_allFactors 3 s args wsX2_allFactors RX2) (hSt : zSt G s) (hret : zRi p l e ({ frames := 1, cells := 0, slots := 0, locals := 21 } : Room) s m args below meth c Q cX2_allFactors G true O (fun r M1 => M1 = M ∧ post r)) (x1 : Int32) (x2 : Int32) (H : Heap) (locs : List Loc) (ls : Array Slot) (hH : zH G true s H locs M O) (hl : lv_has ls 3 [(0, .ref (G.1 1)), (1, .int x1), (2, .int x2)]) (h : pX2_allFactors_L4 M post x1 x2) : W p l e ({ frames := 1, cells := 0, slots := 0, locals := 21 } : Room) s m args below meth c H locs 0 0 Q (F0 m 4 ls []) := by
  obtain ⟨I, ⟨n, hI⟩, hs⟩ := h
  have key : ∀ (n : Nat) (x1 : Int32) (x2 : Int32) (H : Heap) (locs : List Loc) (ls : Array Slot), I n x1 x2 → zH G true s H locs M O → lv_has ls 3 [(0, .ref (G.1 1)), (1, .int x1), (2, .int x2)] → W p l e ({ frames := 1, cells := 0, slots := 0, locals := 21 } : Room) s m args below meth c H locs 0 0 Q (F0 m 4 ls []) := by
    intro n
    induction n using Nat.strongRecOn with
    | _ n ih =>
      intro x1 x2 H locs ls hI hH hl
      exact wX2_allFactors_b4 hF hSt hret (fun x1 x2 H locs ls h hH hl => by obtain ⟨k, hk, hI⟩ := h; exact ih k hk x1 x2 H locs ls hI hH hl) x1 x2 H locs ls hH hl (hs n x1 x2 hI)
  exact key n x1 x2 H locs ls hI hH hl
def pX2_allFactors (M : zM)  (post : Int32 → Prop) : Prop :=
  pX2_allFactors_L4 M post (0 : Int32) (0 : Int32)
set_option maxHeartbeats 4000000 in
set_option maxRecDepth 100000 in
theorem wX2_allFactors {M : zM} {post : Int32 → Prop} (hF : CallFix p m c cX2_allFactors 3 s args wsX2_allFactors RX2) (hSt : zSt G s) (hret : zRi p l e ({ frames := 1, cells := 0, slots := 0, locals := 21 } : Room) s m args below meth c Q cX2_allFactors G true O (fun r M1 => M1 = M ∧ post r))  (H : Heap) (locs : List Loc) (ls : Array Slot) (hH : zH G true s H locs M O) (hl : lv_has ls 3 [(0, .ref (G.1 1))]) (h : pX2_allFactors M  post) : W p l e ({ frames := 1, cells := 0, slots := 0, locals := 21 } : Room) s m args below meth c H locs 0 0 Q (F0 m 0 ls []) := by
  obtain ⟨hx, hb, hml, hown, hts⟩ := id hF
  unfold pX2_allFactors at h
  refine lv_iconst (v := (0 : Int32)) hx hb dX2_allFactors_0 (by decide) ?_
  refine lv_istore_n (lv' := [(1, .int (0 : Int32)), (0, .ref (G.1 1))]) hx hb dX2_allFactors_1 rfl hl (by decide) rfl (fun ls hl => ?_)
  refine lv_iconst (v := (0 : Int32)) hx hb dX2_allFactors_2 (by decide) ?_
  refine lv_istore_n (lv' := [(2, .int (0 : Int32)), (1, .int (0 : Int32)), (0, .ref (G.1 1))]) hx hb dX2_allFactors_3 rfl hl (by decide) rfl (fun ls hl => ?_)
  exact wX2_allFactors_L4 hF hSt hret (0 : Int32) (0 : Int32) H locs ls hH (lv_sub hl [2, 1, 0] rfl) h
set_option maxRecDepth 100000 in
theorem kX2_allFactors (l : Launch) (G : zG) (M O : zM)  (post : Int32 → Prop) (h : pX2_allFactors M  post) : Met l yX2_allFactors wsX2_allFactors ({ frames := 1, cells := 0, slots := 0, locals := 21 } : Room) (zPc G true M O [.ref (G.1 1)]) (va_Qi (fun r M1 => M1 = M ∧ post r) (zB G true O) (zAA G)) 0 0 (zAA G) :=
  zmet_i (by decide) rfl (Nat.le_of_ble_eq_true rfl) (fun hF hSt hret H locs ls hH hl => wX2_allFactors hF hSt hret  H locs ls hH hl h)
end
theorem znX5_count_X5 : ∀ w ∈ wsX50, w ∈ wsX5_count := fun _ h => List.mem_cons_of_mem _ (List.mem_append_left _ (List.mem_append_right _ h))
theorem znX5_count_X2 : ∀ w ∈ wsX20, w ∈ wsX5_count := fun _ h => List.mem_cons_of_mem _ (List.mem_append_right _ h)
theorem zdX5_count : yX5_count.cls ≠ "java/lang/invoke/MethodHandle" ∧ yX5_count.cls ≠ "java/lang/invoke/VarHandle" ∧ (parseMethodDescriptor yX5_count.desc).map (fun d => d.parameters.length) = some 1 := by decide +kernel
-- MixingRelays count(I)I
section
variable {p : Program} {l : Launch} {e : Env} {s : State} {m : MethodId} {args : Array Value} {below : List Frame} {meth : Method} {c : Code} {Q : State → Prop} {G : zG} {O : zM}
def pX5_count (M : zM) (x1 : Int32) (post : Int32 → Prop) : Prop :=
  (x1 = (0 : Int32) → post (M.1 1 0)) ∧ (x1 = (1 : Int32) → post (M.1 1 1)) ∧ (x1 = (2 : Int32) → post (M.1 1 2)) ∧ (x1 = (3 : Int32) → pJ6_bitCount_0f7a4 (M.1 1 3) (fun r75 => post r75)) ∧ (x1 = (4 : Int32) → pJ6_bitCount_0f7a4 (M.1 1 5) (fun r86 => post r86)) ∧ (x1 = (5 : Int32) → pX2_passingLines M  (fun r94 => post r94)) ∧ (x1 = (6 : Int32) → pX2_allFactors M  (fun r102 => post r102)) ∧ (¬ (x1 = (0 : Int32)) → ¬ (x1 = (1 : Int32)) → ¬ (x1 = (2 : Int32)) → ¬ (x1 = (3 : Int32)) → ¬ (x1 = (4 : Int32)) → ¬ (x1 = (5 : Int32)) → ¬ (x1 = (6 : Int32)) → post (-1 : Int32))
set_option maxHeartbeats 4000000 in
set_option maxRecDepth 100000 in
theorem wX5_count {M : zM} {post : Int32 → Prop} (hF : CallFix p m c cX5_count 2 s args wsX5_count RX5) (hSt : zSt G s) (hret : zRi p l e ({ frames := 3, cells := 0, slots := 0, locals := 66 } : Room) s m args below meth c Q cX5_count G true O (fun r M1 => M1 = M ∧ post r)) (x1 : Int32) (H : Heap) (locs : List Loc) (ls : Array Slot) (hH : zH G true s H locs M O) (hl : lv_has ls 2 [(0, .ref (G.1 0)), (1, .int x1)]) (h : pX5_count M x1 post) : W p l e ({ frames := 3, cells := 0, slots := 0, locals := 66 } : Room) s m args below meth c H locs 0 0 Q (F0 m 0 ls []) := by
  obtain ⟨hx, hb, hml, hown, hts⟩ := id hF
  unfold pX5_count at h
  refine lv_iload_n hx hb dX5_count_0 rfl (lv_at hl 1 rfl) ?_
  by_cases q1_0 : x1 = (0 : Int32)
  · have h := h.1 q1_0
    refine lv_tableIn (off := 43) (tgt := 44) hx hb dX5_count_1 (by rw [q1_0]; decide) (by rw [q1_0]; decide) (by rw [q1_0]; decide) (by decide) ?_
    refine lv_aload_n hx hb dX5_count_44 rfl (lv_at hl 0 rfl) ?_
    refine zget (v := .ref (G.1 1)) hF hSt hH 0 (by decide) rfl (zE_0 _ _ _) (C := RX5) (T := TX5) (N := 5) rfl znX5_count_X5 0 (by decide) (List.mem_of_getElem? (i := 1) rfl) rfl dX5_count_45 ?_
    refine zget (v := .int (M.1 1 0)) hF hSt hH 1 (by decide) rfl (zE_1 _ _ _) (C := RX2) (T := TX2) (N := 16) rfl znX5_count_X2 0 (by decide) (List.mem_of_getElem? (i := 2) rfl) rfl dX5_count_48 ?_
    exact hret _ _ _ _ _ _ dX5_count_51 ⟨rfl, h⟩ hH
  · have h := h.2
    by_cases q1_1 : x1 = (1 : Int32)
    · have h := h.1 q1_1
      refine lv_tableIn (off := 51) (tgt := 52) hx hb dX5_count_1 (by rw [q1_1]; decide) (by rw [q1_1]; decide) (by rw [q1_1]; decide) (by decide) ?_
      refine lv_aload_n hx hb dX5_count_52 rfl (lv_at hl 0 rfl) ?_
      refine zget (v := .ref (G.1 1)) hF hSt hH 0 (by decide) rfl (zE_0 _ _ _) (C := RX5) (T := TX5) (N := 5) rfl znX5_count_X5 0 (by decide) (List.mem_of_getElem? (i := 1) rfl) rfl dX5_count_53 ?_
      refine zget (v := .int (M.1 1 1)) hF hSt hH 1 (by decide) rfl (zE_1 _ _ _) (C := RX2) (T := TX2) (N := 16) rfl znX5_count_X2 1 (by decide) (List.mem_of_getElem? (i := 3) rfl) rfl dX5_count_56 ?_
      exact hret _ _ _ _ _ _ dX5_count_59 ⟨rfl, h⟩ hH
    · have h := h.2
      by_cases q1_2 : x1 = (2 : Int32)
      · have h := h.1 q1_2
        refine lv_tableIn (off := 59) (tgt := 60) hx hb dX5_count_1 (by rw [q1_2]; decide) (by rw [q1_2]; decide) (by rw [q1_2]; decide) (by decide) ?_
        refine lv_aload_n hx hb dX5_count_60 rfl (lv_at hl 0 rfl) ?_
        refine zget (v := .ref (G.1 1)) hF hSt hH 0 (by decide) rfl (zE_0 _ _ _) (C := RX5) (T := TX5) (N := 5) rfl znX5_count_X5 0 (by decide) (List.mem_of_getElem? (i := 1) rfl) rfl dX5_count_61 ?_
        refine zget (v := .int (M.1 1 2)) hF hSt hH 1 (by decide) rfl (zE_1 _ _ _) (C := RX2) (T := TX2) (N := 16) rfl znX5_count_X2 2 (by decide) (List.mem_of_getElem? (i := 4) rfl) rfl dX5_count_64 ?_
        exact hret _ _ _ _ _ _ dX5_count_67 ⟨rfl, h⟩ hH
      · have h := h.2
        by_cases q1_3 : x1 = (3 : Int32)
        · have h := h.1 q1_3
          refine lv_tableIn (off := 67) (tgt := 68) hx hb dX5_count_1 (by rw [q1_3]; decide) (by rw [q1_3]; decide) (by rw [q1_3]; decide) (by decide) ?_
          refine lv_aload_n hx hb dX5_count_68 rfl (lv_at hl 0 rfl) ?_
          refine zget (v := .ref (G.1 1)) hF hSt hH 0 (by decide) rfl (zE_0 _ _ _) (C := RX5) (T := TX5) (N := 5) rfl znX5_count_X5 0 (by decide) (List.mem_of_getElem? (i := 1) rfl) rfl dX5_count_69 ?_
          refine zget (v := .int (M.1 1 3)) hF hSt hH 1 (by decide) rfl (zE_1 _ _ _) (C := RX2) (T := TX2) (N := 16) rfl znX5_count_X2 3 (by decide) (List.mem_of_getElem? (i := 5) rfl) rfl dX5_count_72 ?_
          refine zcalliP hH (va_runS (As := [.int (M.1 1 3)]) (rest := []) hF (kJ6_bitCount_0f7a4 l G M O (M.1 1 3) _ h) (va_cwS 1 hts gX5_count_J6_bitCount_0f7a4 rfl rfl rfl zdJ6_bitCount_0f7a4 ⟨Nat.le_of_ble_eq_true rfl, Nat.le_of_ble_eq_true rfl⟩) (zpreS hSt hH [.int (M.1 1 3)]) rfl rfl hl.1 rfl (lv_room (Nat.le_of_ble_eq_true rfl)) dX5_count_75 ⟨Nat.zero_le _, Nat.zero_le _⟩) (fun r75 H locs h hH => ?_)
          exact hret _ _ _ _ _ _ dX5_count_78 ⟨rfl, h⟩ hH
        · have h := h.2
          by_cases q1_4 : x1 = (4 : Int32)
          · have h := h.1 q1_4
            refine lv_tableIn (off := 78) (tgt := 79) hx hb dX5_count_1 (by rw [q1_4]; decide) (by rw [q1_4]; decide) (by rw [q1_4]; decide) (by decide) ?_
            refine lv_aload_n hx hb dX5_count_79 rfl (lv_at hl 0 rfl) ?_
            refine zget (v := .ref (G.1 1)) hF hSt hH 0 (by decide) rfl (zE_0 _ _ _) (C := RX5) (T := TX5) (N := 5) rfl znX5_count_X5 0 (by decide) (List.mem_of_getElem? (i := 1) rfl) rfl dX5_count_80 ?_
            refine zget (v := .int (M.1 1 5)) hF hSt hH 1 (by decide) rfl (zE_1 _ _ _) (C := RX2) (T := TX2) (N := 16) rfl znX5_count_X2 5 (by decide) (List.mem_of_getElem? (i := 6) rfl) rfl dX5_count_83 ?_
            refine zcalliP hH (va_runS (As := [.int (M.1 1 5)]) (rest := []) hF (kJ6_bitCount_0f7a4 l G M O (M.1 1 5) _ h) (va_cwS 1 hts gX5_count_J6_bitCount_0f7a4 rfl rfl rfl zdJ6_bitCount_0f7a4 ⟨Nat.le_of_ble_eq_true rfl, Nat.le_of_ble_eq_true rfl⟩) (zpreS hSt hH [.int (M.1 1 5)]) rfl rfl hl.1 rfl (lv_room (Nat.le_of_ble_eq_true rfl)) dX5_count_86 ⟨Nat.zero_le _, Nat.zero_le _⟩) (fun r86 H locs h hH => ?_)
            exact hret _ _ _ _ _ _ dX5_count_89 ⟨rfl, h⟩ hH
          · have h := h.2
            by_cases q1_5 : x1 = (5 : Int32)
            · have h := h.1 q1_5
              refine lv_tableIn (off := 89) (tgt := 90) hx hb dX5_count_1 (by rw [q1_5]; decide) (by rw [q1_5]; decide) (by rw [q1_5]; decide) (by decide) ?_
              refine lv_aload_n hx hb dX5_count_90 rfl (lv_at hl 0 rfl) ?_
              refine zget (v := .ref (G.1 1)) hF hSt hH 0 (by decide) rfl (zE_0 _ _ _) (C := RX5) (T := TX5) (N := 5) rfl znX5_count_X5 0 (by decide) (List.mem_of_getElem? (i := 1) rfl) rfl dX5_count_91 ?_
              refine zcalliP hH (va_runV (As := []) (rest := []) hF (kX2_passingLines l G M O _ h) (cwV 0 hts gX5_count_X2_passingLines rfl rfl rfl ⟨rfl, zdX2_passingLines⟩ ⟨Nat.le_of_ble_eq_true rfl, Nat.le_of_ble_eq_true rfl⟩) (zpreV hSt hH 1 (by decide) rfl (zE_1 _ _ _) (q := (RX2, TX2, 16)) rfl []) rfl rfl hl.1 rfl (lv_room (Nat.le_of_ble_eq_true rfl)) dX5_count_94 ⟨Nat.zero_le _, Nat.zero_le _⟩) (fun r94 H locs h hH => ?_)
              exact hret _ _ _ _ _ _ dX5_count_97 ⟨rfl, h⟩ hH
            · have h := h.2
              by_cases q1_6 : x1 = (6 : Int32)
              · have h := h.1 q1_6
                refine lv_tableIn (off := 97) (tgt := 98) hx hb dX5_count_1 (by rw [q1_6]; decide) (by rw [q1_6]; decide) (by rw [q1_6]; decide) (by decide) ?_
                refine lv_aload_n hx hb dX5_count_98 rfl (lv_at hl 0 rfl) ?_
                refine zget (v := .ref (G.1 1)) hF hSt hH 0 (by decide) rfl (zE_0 _ _ _) (C := RX5) (T := TX5) (N := 5) rfl znX5_count_X5 0 (by decide) (List.mem_of_getElem? (i := 1) rfl) rfl dX5_count_99 ?_
                refine zcalliP hH (va_runV (As := []) (rest := []) hF (kX2_allFactors l G M O _ h) (cwV 0 hts gX5_count_X2_allFactors rfl rfl rfl ⟨rfl, zdX2_allFactors⟩ ⟨Nat.le_of_ble_eq_true rfl, Nat.le_of_ble_eq_true rfl⟩) (zpreV hSt hH 1 (by decide) rfl (zE_1 _ _ _) (q := (RX2, TX2, 16)) rfl []) rfl rfl hl.1 rfl (lv_room (Nat.le_of_ble_eq_true rfl)) dX5_count_102 ⟨Nat.zero_le _, Nat.zero_le _⟩) (fun r102 H locs h hH => ?_)
                exact hret _ _ _ _ _ _ dX5_count_105 ⟨rfl, h⟩ hH
              · have h := h.2
                have h := h q1_0 q1_1 q1_2 q1_3 q1_4 q1_5 q1_6
                refine lv_tableOut (tgt := 106) hx hb dX5_count_1 (by have n0 := lv_neT q1_0 (a := 0) (by decide); have n1 := lv_neT q1_1 (a := 1) (by decide); have n2 := lv_neT q1_2 (a := 2) (by decide); have n3 := lv_neT q1_3 (a := 3) (by decide); have n4 := lv_neT q1_4 (a := 4) (by decide); have n5 := lv_neT q1_5 (a := 5) (by decide); have n6 := lv_neT q1_6 (a := 6) (by decide); omega) (by decide) ?_
                refine lv_iconst (v := (-1 : Int32)) hx hb dX5_count_106 (by decide) ?_
                exact hret _ _ _ _ _ _ dX5_count_107 ⟨rfl, h⟩ hH
set_option maxRecDepth 100000 in
theorem kX5_count (l : Launch) (G : zG) (M O : zM) (x1 : Int32) (post : Int32 → Prop) (h : pX5_count M x1 post) : Met l yX5_count wsX5_count ({ frames := 3, cells := 0, slots := 0, locals := 66 } : Room) (zPc G true M O [.ref (G.1 0), .int x1]) (va_Qi (fun r M1 => M1 = M ∧ post r) (zB G true O) (zAA G)) 0 0 (zAA G) :=
  zmet_i (by decide) rfl (Nat.le_of_ble_eq_true rfl) (fun hF hSt hret H locs ls hH hl => wX5_count hF hSt hret x1 H locs ls hH hl h)
end
