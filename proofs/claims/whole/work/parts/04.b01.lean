theorem znX6_keep_X6 : ∀ w ∈ wsX60, w ∈ wsX6_keep := fun _ h => List.mem_cons_of_mem _ (List.mem_append_right _ h)
theorem zdX6_keep : yX6_keep.cls ≠ "java/lang/invoke/MethodHandle" ∧ yX6_keep.cls ≠ "java/lang/invoke/VarHandle" ∧ (parseMethodDescriptor yX6_keep.desc).map (fun d => d.parameters.length) = some 2 := by decide +kernel
-- MixingRelaysModel keep(II)I
section
variable {p : Program} {l : Launch} {e : Env} {s : State} {m : MethodId} {args : Array Value} {below : List Frame} {meth : Method} {c : Code} {Q : State → Prop} {G : zG} {O : zM}
def pX6_keep_b52 (post : Int32 → zM → Prop) (x3 : Int32) (t0 : Int32) (t1 : Int32) (M : zM) : Prop :=
  vp_in t1 30 ∧ post x3 (zsi M 26 t1.toNatClampNeg (vp_nar .boolean t0))
set_option maxHeartbeats 4000000 in
set_option maxRecDepth 100000 in
theorem wX6_keep_b52 {post : Int32 → zM → Prop}  (hF : CallFix p m c cX6_keep 4 s args wsX6_keep RX6) (hSt : zSt G s) (hret : zRi p l e ({ frames := 2, cells := 0, slots := 0, locals := 43 } : Room) s m args below meth c Q cX6_keep G false O post) (x3 : Int32) (t0 : Int32) (t1 : Int32) (M : zM) (H : Heap) (locs : List Loc) (ls : Array Slot) (hH : zH G false s H locs M O) (hl : lv_has ls 4 [(3, .int x3)]) (h : pX6_keep_b52 post x3 t0 t1 M) : W p l e ({ frames := 2, cells := 0, slots := 0, locals := 43 } : Room) s m args below meth c H locs 0 0 Q (F0 m 52 ls [.int t0, .int t1, .ref (G.1 26)]) := by
  obtain ⟨hx, hb, hml, hown, hts⟩ := id hF
  unfold pX6_keep_b52 at h
  obtain ⟨q52, h⟩ := h
  refine zzast hF hSt hH 26 (by decide) rfl (zE_26 _) (x := t0) q52 dX6_keep_52 (fun H locs hH => ?_)
  refine lv_iload_n hx hb dX6_keep_53 rfl (lv_at hl 0 rfl) ?_
  exact hret _ _ _ _ _ _ dX6_keep_54 h hH
def pX6_keep_b36 (post : Int32 → zM → Prop) (x1 : Int32) (x2 : Int32) (t0 : Int32) (M : zM) : Prop :=
  (¬ (x2 = (1 : Int32)) → pX6_keep_b52 post t0 (0 : Int32) x1 M) ∧ (x2 = (1 : Int32) → pX6_keep_b52 post t0 (1 : Int32) x1 M)
set_option maxHeartbeats 4000000 in
set_option maxRecDepth 100000 in
theorem wX6_keep_b36 {post : Int32 → zM → Prop}  (hF : CallFix p m c cX6_keep 4 s args wsX6_keep RX6) (hSt : zSt G s) (hret : zRi p l e ({ frames := 2, cells := 0, slots := 0, locals := 43 } : Room) s m args below meth c Q cX6_keep G false O post) (x1 : Int32) (x2 : Int32) (t0 : Int32) (M : zM) (H : Heap) (locs : List Loc) (ls : Array Slot) (hH : zH G false s H locs M O) (hl : lv_has ls 4 [(0, .ref (G.1 21)), (1, .int x1), (2, .int x2)]) (h : pX6_keep_b36 post x1 x2 t0 M) : W p l e ({ frames := 2, cells := 0, slots := 0, locals := 43 } : Room) s m args below meth c H locs 0 0 Q (F0 m 36 ls [.int t0]) := by
  obtain ⟨hx, hb, hml, hown, hts⟩ := id hF
  unfold pX6_keep_b36 at h
  refine lv_istore_n (lv' := [(3, .int t0), (0, .ref (G.1 21)), (1, .int x1), (2, .int x2)]) hx hb dX6_keep_36 rfl hl (by decide) rfl (fun ls hl => ?_)
  refine lv_aload_n hx hb dX6_keep_37 rfl (lv_at hl 1 rfl) ?_
  refine zget (v := .ref (G.1 26)) hF hSt hH 21 (by decide) rfl (zE_21 _ _ _) (C := RX6) (T := TX6) (N := 31) rfl znX6_keep_X6 8 (by decide) (List.mem_of_getElem? (i := 1) rfl) rfl dX6_keep_38 ?_
  refine lv_iload_n hx hb dX6_keep_41 rfl (lv_at hl 2 rfl) ?_
  refine lv_iload_n hx hb dX6_keep_42 rfl (lv_at hl 3 rfl) ?_
  refine lv_iconst (v := (1 : Int32)) hx hb dX6_keep_43 (by decide) ?_
  refine lv_icmp_ne (tgt := 51) hx hb dX6_keep_44 (by decide) (fun q44 => ?_) (fun q44 => ?_)
  · have h := h.1 q44
    refine lv_iconst (v := (0 : Int32)) hx hb dX6_keep_51 (by decide) ?_
    exact wX6_keep_b52 hF hSt hret t0 (0 : Int32) x1 M H locs ls hH (lv_sub hl [0] rfl) h
  · have h := h.2 q44
    refine lv_iconst (v := (1 : Int32)) hx hb dX6_keep_47 (by decide) ?_
    refine lv_goto (tgt := 52) hx hb dX6_keep_48 (by decide) ?_
    exact wX6_keep_b52 hF hSt hret t0 (1 : Int32) x1 M H locs ls hH (lv_sub hl [0] rfl) h
def pX6_keep (M : zM) (x1 : Int32) (x2 : Int32) (post : Int32 → zM → Prop) : Prop :=
  pX6_isLine M x1 (fun r2 => (¬ (r2 = 0) → pX6_in x2 (0 : Int32) (1 : Int32) (fun r13 => (¬ (r13 = 0) → vp_in x1 30 ∧ ((M.1 26 x1.toNatClampNeg) = 0 → pX6_keep_b36 post x1 x2 (0 : Int32) M) ∧ (¬ ((M.1 26 x1.toNatClampNeg) = 0) → pX6_keep_b36 post x1 x2 (1 : Int32) M)) ∧ (r13 = 0 → post (-2 : Int32) M))) ∧ (r2 = 0 → post (-1 : Int32) M))
set_option maxHeartbeats 4000000 in
set_option maxRecDepth 100000 in
theorem wX6_keep {M : zM} {post : Int32 → zM → Prop} (hF : CallFix p m c cX6_keep 4 s args wsX6_keep RX6) (hSt : zSt G s) (hret : zRi p l e ({ frames := 2, cells := 0, slots := 0, locals := 43 } : Room) s m args below meth c Q cX6_keep G false O post) (x1 : Int32) (x2 : Int32) (H : Heap) (locs : List Loc) (ls : Array Slot) (hH : zH G false s H locs M O) (hl : lv_has ls 4 [(0, .ref (G.1 21)), (1, .int x1), (2, .int x2)]) (h : pX6_keep M x1 x2 post) : W p l e ({ frames := 2, cells := 0, slots := 0, locals := 43 } : Room) s m args below meth c H locs 0 0 Q (F0 m 0 ls []) := by
  obtain ⟨hx, hb, hml, hown, hts⟩ := id hF
  unfold pX6_keep at h
  refine lv_aload_n hx hb dX6_keep_0 rfl (lv_at hl 0 rfl) ?_
  refine lv_iload_n hx hb dX6_keep_1 rfl (lv_at hl 1 rfl) ?_
  refine zcalliP hH (va_runV (As := [.int x1]) (rest := []) hF (kX6_isLine l G M O x1 _ h) (cwV 1 hts gX6_keep_X6_isLine rfl rfl rfl ⟨rfl, zdX6_isLine⟩ ⟨Nat.le_of_ble_eq_true rfl, Nat.le_of_ble_eq_true rfl⟩) (zpreV hSt hH 21 (by decide) rfl (zE_21 _ _ _) (q := (RX6, TX6, 31)) rfl [.int x1]) rfl rfl hl.1 rfl (lv_room (Nat.le_of_ble_eq_true rfl)) dX6_keep_2 ⟨Nat.zero_le _, Nat.zero_le _⟩) (fun r2 H locs h hH => ?_)
  refine lv_if_ne (tgt := 10) hx hb dX6_keep_5 (by decide) (fun q5 => ?_) (fun q5 => ?_)
  · have h := h.1 q5
    refine lv_iload_n hx hb dX6_keep_10 rfl (lv_at hl 2 rfl) ?_
    refine lv_iconst (v := (0 : Int32)) hx hb dX6_keep_11 (by decide) ?_
    refine lv_iconst (v := (1 : Int32)) hx hb dX6_keep_12 (by decide) ?_
    refine zcalliP hH (va_runS (As := [.int x2, .int (0 : Int32), .int (1 : Int32)]) (rest := []) hF (kX6_in l G M O x2 (0 : Int32) (1 : Int32) _ h) (va_cwS 3 hts gX6_keep_X6_in rfl rfl rfl zdX6_in ⟨Nat.le_of_ble_eq_true rfl, Nat.le_of_ble_eq_true rfl⟩) (zpreS hSt hH [.int x2, .int (0 : Int32), .int (1 : Int32)]) rfl rfl hl.1 rfl (lv_room (Nat.le_of_ble_eq_true rfl)) dX6_keep_13 ⟨Nat.zero_le _, Nat.zero_le _⟩) (fun r13 H locs h hH => ?_)
    refine lv_if_ne (tgt := 22) hx hb dX6_keep_16 (by decide) (fun q16 => ?_) (fun q16 => ?_)
    · have h := h.1 q16
      refine lv_aload_n hx hb dX6_keep_22 rfl (lv_at hl 0 rfl) ?_
      refine zget (v := .ref (G.1 26)) hF hSt hH 21 (by decide) rfl (zE_21 _ _ _) (C := RX6) (T := TX6) (N := 31) rfl znX6_keep_X6 8 (by decide) (List.mem_of_getElem? (i := 1) rfl) rfl dX6_keep_23 ?_
      refine lv_iload_n hx hb dX6_keep_26 rfl (lv_at hl 1 rfl) ?_
      obtain ⟨q27, h⟩ := h
      refine zzald hF hSt hH 26 (by decide) rfl (zE_26 _ _ _) q27 dX6_keep_27 ?_
      refine lv_if_eq (tgt := 35) hx hb dX6_keep_28 (by decide) (fun q28 => ?_) (fun q28 => ?_)
      · have h := h.1 q28
        refine lv_iconst (v := (0 : Int32)) hx hb dX6_keep_35 (by decide) ?_
        exact wX6_keep_b36 hF hSt hret x1 x2 (0 : Int32) M H locs ls hH (lv_sub hl [0, 1, 2] rfl) h
      · have h := h.2 q28
        refine lv_iconst (v := (1 : Int32)) hx hb dX6_keep_31 (by decide) ?_
        refine lv_goto (tgt := 36) hx hb dX6_keep_32 (by decide) ?_
        exact wX6_keep_b36 hF hSt hret x1 x2 (1 : Int32) M H locs ls hH (lv_sub hl [0, 1, 2] rfl) h
    · have h := h.2 q16
      refine lv_bipush (v := (-2 : Int32)) hx hb dX6_keep_19 (by decide) ?_
      exact hret _ _ _ _ _ _ dX6_keep_21 h hH
  · have h := h.2 q5
    refine lv_iconst (v := (-1 : Int32)) hx hb dX6_keep_8 (by decide) ?_
    exact hret _ _ _ _ _ _ dX6_keep_9 h hH
set_option maxRecDepth 100000 in
theorem kX6_keep (l : Launch) (G : zG) (M O : zM) (x1 : Int32) (x2 : Int32) (post : Int32 → zM → Prop) (h : pX6_keep M x1 x2 post) : Met l yX6_keep wsX6_keep ({ frames := 2, cells := 0, slots := 0, locals := 43 } : Room) (zPc G false M O [.ref (G.1 21), .int x1, .int x2]) (va_Qi post (zB G false O) (zAA G)) 0 0 (zAA G) :=
  zmet_i (by decide) rfl (Nat.le_of_ble_eq_true rfl) (fun hF hSt hret H locs ls hH hl => wX6_keep hF hSt hret x1 x2 H locs ls hH hl h)
end
theorem znX6_broken_X6 : ∀ w ∈ wsX60, w ∈ wsX6_broken := fun _ h => List.mem_cons_of_mem _ (List.mem_append_right _ h)
theorem zdX6_broken : yX6_broken.cls ≠ "java/lang/invoke/MethodHandle" ∧ yX6_broken.cls ≠ "java/lang/invoke/VarHandle" ∧ (parseMethodDescriptor yX6_broken.desc).map (fun d => d.parameters.length) = some 2 := by decide +kernel
-- MixingRelaysModel broken(II)I
section
variable {p : Program} {l : Launch} {e : Env} {s : State} {m : MethodId} {args : Array Value} {below : List Frame} {meth : Method} {c : Code} {Q : State → Prop} {G : zG} {O : zM}
def pX6_broken_b52 (post : Int32 → zM → Prop) (x3 : Int32) (t0 : Int32) (t1 : Int32) (M : zM) : Prop :=
  vp_in t1 30 ∧ post x3 (zsi M 27 t1.toNatClampNeg (vp_nar .boolean t0))
set_option maxHeartbeats 4000000 in
set_option maxRecDepth 100000 in
theorem wX6_broken_b52 {post : Int32 → zM → Prop}  (hF : CallFix p m c cX6_broken 4 s args wsX6_broken RX6) (hSt : zSt G s) (hret : zRi p l e ({ frames := 2, cells := 0, slots := 0, locals := 43 } : Room) s m args below meth c Q cX6_broken G false O post) (x3 : Int32) (t0 : Int32) (t1 : Int32) (M : zM) (H : Heap) (locs : List Loc) (ls : Array Slot) (hH : zH G false s H locs M O) (hl : lv_has ls 4 [(3, .int x3)]) (h : pX6_broken_b52 post x3 t0 t1 M) : W p l e ({ frames := 2, cells := 0, slots := 0, locals := 43 } : Room) s m args below meth c H locs 0 0 Q (F0 m 52 ls [.int t0, .int t1, .ref (G.1 27)]) := by
  obtain ⟨hx, hb, hml, hown, hts⟩ := id hF
  unfold pX6_broken_b52 at h
  obtain ⟨q52, h⟩ := h
  refine zzast hF hSt hH 27 (by decide) rfl (zE_27 _) (x := t0) q52 dX6_broken_52 (fun H locs hH => ?_)
  refine lv_iload_n hx hb dX6_broken_53 rfl (lv_at hl 0 rfl) ?_
  exact hret _ _ _ _ _ _ dX6_broken_54 h hH
def pX6_broken_b36 (post : Int32 → zM → Prop) (x1 : Int32) (x2 : Int32) (t0 : Int32) (M : zM) : Prop :=
  (¬ (x2 = (1 : Int32)) → pX6_broken_b52 post t0 (0 : Int32) x1 M) ∧ (x2 = (1 : Int32) → pX6_broken_b52 post t0 (1 : Int32) x1 M)
set_option maxHeartbeats 4000000 in
set_option maxRecDepth 100000 in
theorem wX6_broken_b36 {post : Int32 → zM → Prop}  (hF : CallFix p m c cX6_broken 4 s args wsX6_broken RX6) (hSt : zSt G s) (hret : zRi p l e ({ frames := 2, cells := 0, slots := 0, locals := 43 } : Room) s m args below meth c Q cX6_broken G false O post) (x1 : Int32) (x2 : Int32) (t0 : Int32) (M : zM) (H : Heap) (locs : List Loc) (ls : Array Slot) (hH : zH G false s H locs M O) (hl : lv_has ls 4 [(0, .ref (G.1 21)), (1, .int x1), (2, .int x2)]) (h : pX6_broken_b36 post x1 x2 t0 M) : W p l e ({ frames := 2, cells := 0, slots := 0, locals := 43 } : Room) s m args below meth c H locs 0 0 Q (F0 m 36 ls [.int t0]) := by
  obtain ⟨hx, hb, hml, hown, hts⟩ := id hF
  unfold pX6_broken_b36 at h
  refine lv_istore_n (lv' := [(3, .int t0), (0, .ref (G.1 21)), (1, .int x1), (2, .int x2)]) hx hb dX6_broken_36 rfl hl (by decide) rfl (fun ls hl => ?_)
  refine lv_aload_n hx hb dX6_broken_37 rfl (lv_at hl 1 rfl) ?_
  refine zget (v := .ref (G.1 27)) hF hSt hH 21 (by decide) rfl (zE_21 _ _ _) (C := RX6) (T := TX6) (N := 31) rfl znX6_broken_X6 9 (by decide) (List.mem_of_getElem? (i := 1) rfl) rfl dX6_broken_38 ?_
  refine lv_iload_n hx hb dX6_broken_41 rfl (lv_at hl 2 rfl) ?_
  refine lv_iload_n hx hb dX6_broken_42 rfl (lv_at hl 3 rfl) ?_
  refine lv_iconst (v := (1 : Int32)) hx hb dX6_broken_43 (by decide) ?_
  refine lv_icmp_ne (tgt := 51) hx hb dX6_broken_44 (by decide) (fun q44 => ?_) (fun q44 => ?_)
  · have h := h.1 q44
    refine lv_iconst (v := (0 : Int32)) hx hb dX6_broken_51 (by decide) ?_
    exact wX6_broken_b52 hF hSt hret t0 (0 : Int32) x1 M H locs ls hH (lv_sub hl [0] rfl) h
  · have h := h.2 q44
    refine lv_iconst (v := (1 : Int32)) hx hb dX6_broken_47 (by decide) ?_
    refine lv_goto (tgt := 52) hx hb dX6_broken_48 (by decide) ?_
    exact wX6_broken_b52 hF hSt hret t0 (1 : Int32) x1 M H locs ls hH (lv_sub hl [0] rfl) h
def pX6_broken (M : zM) (x1 : Int32) (x2 : Int32) (post : Int32 → zM → Prop) : Prop :=
  pX6_isLine M x1 (fun r2 => (¬ (r2 = 0) → pX6_in x2 (0 : Int32) (1 : Int32) (fun r13 => (¬ (r13 = 0) → vp_in x1 30 ∧ ((M.1 27 x1.toNatClampNeg) = 0 → pX6_broken_b36 post x1 x2 (0 : Int32) M) ∧ (¬ ((M.1 27 x1.toNatClampNeg) = 0) → pX6_broken_b36 post x1 x2 (1 : Int32) M)) ∧ (r13 = 0 → post (-2 : Int32) M))) ∧ (r2 = 0 → post (-1 : Int32) M))
set_option maxHeartbeats 4000000 in
set_option maxRecDepth 100000 in
theorem wX6_broken {M : zM} {post : Int32 → zM → Prop} (hF : CallFix p m c cX6_broken 4 s args wsX6_broken RX6) (hSt : zSt G s) (hret : zRi p l e ({ frames := 2, cells := 0, slots := 0, locals := 43 } : Room) s m args below meth c Q cX6_broken G false O post) (x1 : Int32) (x2 : Int32) (H : Heap) (locs : List Loc) (ls : Array Slot) (hH : zH G false s H locs M O) (hl : lv_has ls 4 [(0, .ref (G.1 21)), (1, .int x1), (2, .int x2)]) (h : pX6_broken M x1 x2 post) : W p l e ({ frames := 2, cells := 0, slots := 0, locals := 43 } : Room) s m args below meth c H locs 0 0 Q (F0 m 0 ls []) := by
  obtain ⟨hx, hb, hml, hown, hts⟩ := id hF
  unfold pX6_broken at h
  refine lv_aload_n hx hb dX6_broken_0 rfl (lv_at hl 0 rfl) ?_
  refine lv_iload_n hx hb dX6_broken_1 rfl (lv_at hl 1 rfl) ?_
  refine zcalliP hH (va_runV (As := [.int x1]) (rest := []) hF (kX6_isLine l G M O x1 _ h) (cwV 1 hts gX6_broken_X6_isLine rfl rfl rfl ⟨rfl, zdX6_isLine⟩ ⟨Nat.le_of_ble_eq_true rfl, Nat.le_of_ble_eq_true rfl⟩) (zpreV hSt hH 21 (by decide) rfl (zE_21 _ _ _) (q := (RX6, TX6, 31)) rfl [.int x1]) rfl rfl hl.1 rfl (lv_room (Nat.le_of_ble_eq_true rfl)) dX6_broken_2 ⟨Nat.zero_le _, Nat.zero_le _⟩) (fun r2 H locs h hH => ?_)
  refine lv_if_ne (tgt := 10) hx hb dX6_broken_5 (by decide) (fun q5 => ?_) (fun q5 => ?_)
  · have h := h.1 q5
    refine lv_iload_n hx hb dX6_broken_10 rfl (lv_at hl 2 rfl) ?_
    refine lv_iconst (v := (0 : Int32)) hx hb dX6_broken_11 (by decide) ?_
    refine lv_iconst (v := (1 : Int32)) hx hb dX6_broken_12 (by decide) ?_
    refine zcalliP hH (va_runS (As := [.int x2, .int (0 : Int32), .int (1 : Int32)]) (rest := []) hF (kX6_in l G M O x2 (0 : Int32) (1 : Int32) _ h) (va_cwS 3 hts gX6_broken_X6_in rfl rfl rfl zdX6_in ⟨Nat.le_of_ble_eq_true rfl, Nat.le_of_ble_eq_true rfl⟩) (zpreS hSt hH [.int x2, .int (0 : Int32), .int (1 : Int32)]) rfl rfl hl.1 rfl (lv_room (Nat.le_of_ble_eq_true rfl)) dX6_broken_13 ⟨Nat.zero_le _, Nat.zero_le _⟩) (fun r13 H locs h hH => ?_)
    refine lv_if_ne (tgt := 22) hx hb dX6_broken_16 (by decide) (fun q16 => ?_) (fun q16 => ?_)
    · have h := h.1 q16
      refine lv_aload_n hx hb dX6_broken_22 rfl (lv_at hl 0 rfl) ?_
      refine zget (v := .ref (G.1 27)) hF hSt hH 21 (by decide) rfl (zE_21 _ _ _) (C := RX6) (T := TX6) (N := 31) rfl znX6_broken_X6 9 (by decide) (List.mem_of_getElem? (i := 1) rfl) rfl dX6_broken_23 ?_
      refine lv_iload_n hx hb dX6_broken_26 rfl (lv_at hl 1 rfl) ?_
      obtain ⟨q27, h⟩ := h
      refine zzald hF hSt hH 27 (by decide) rfl (zE_27 _ _ _) q27 dX6_broken_27 ?_
      refine lv_if_eq (tgt := 35) hx hb dX6_broken_28 (by decide) (fun q28 => ?_) (fun q28 => ?_)
      · have h := h.1 q28
        refine lv_iconst (v := (0 : Int32)) hx hb dX6_broken_35 (by decide) ?_
        exact wX6_broken_b36 hF hSt hret x1 x2 (0 : Int32) M H locs ls hH (lv_sub hl [0, 1, 2] rfl) h
      · have h := h.2 q28
        refine lv_iconst (v := (1 : Int32)) hx hb dX6_broken_31 (by decide) ?_
        refine lv_goto (tgt := 36) hx hb dX6_broken_32 (by decide) ?_
        exact wX6_broken_b36 hF hSt hret x1 x2 (1 : Int32) M H locs ls hH (lv_sub hl [0, 1, 2] rfl) h
    · have h := h.2 q16
      refine lv_bipush (v := (-2 : Int32)) hx hb dX6_broken_19 (by decide) ?_
      exact hret _ _ _ _ _ _ dX6_broken_21 h hH
  · have h := h.2 q5
    refine lv_iconst (v := (-1 : Int32)) hx hb dX6_broken_8 (by decide) ?_
    exact hret _ _ _ _ _ _ dX6_broken_9 h hH
set_option maxRecDepth 100000 in
theorem kX6_broken (l : Launch) (G : zG) (M O : zM) (x1 : Int32) (x2 : Int32) (post : Int32 → zM → Prop) (h : pX6_broken M x1 x2 post) : Met l yX6_broken wsX6_broken ({ frames := 2, cells := 0, slots := 0, locals := 43 } : Room) (zPc G false M O [.ref (G.1 21), .int x1, .int x2]) (va_Qi post (zB G false O) (zAA G)) 0 0 (zAA G) :=
  zmet_i (by decide) rfl (Nat.le_of_ble_eq_true rfl) (fun hF hSt hret H locs ls hH hl => wX6_broken hF hSt hret x1 x2 H locs ls hH hl h)
end
theorem znX6_bend_X6 : ∀ w ∈ wsX60, w ∈ wsX6_bend := fun _ h => List.mem_cons_of_mem _ (List.mem_append_right _ h)
theorem zdX6_bend : yX6_bend.cls ≠ "java/lang/invoke/MethodHandle" ∧ yX6_bend.cls ≠ "java/lang/invoke/VarHandle" ∧ (parseMethodDescriptor yX6_bend.desc).map (fun d => d.parameters.length) = some 2 := by decide +kernel
-- MixingRelaysModel bend(IJ)I
section
variable {p : Program} {l : Launch} {e : Env} {s : State} {m : MethodId} {args : Array Value} {below : List Frame} {meth : Method} {c : Code} {Q : State → Prop} {G : zG} {O : zM}
def pX6_bend_b26 (post : Int32 → zM → Prop) (x1 : Int32) (x2 : Int64) (t0 : Int32) (M : zM) : Prop :=
  vp_in x1 30 ∧ post t0 (zsj M 28 x1.toNatClampNeg x2)
set_option maxHeartbeats 4000000 in
set_option maxRecDepth 100000 in
theorem wX6_bend_b26 {post : Int32 → zM → Prop}  (hF : CallFix p m c cX6_bend 5 s args wsX6_bend RX6) (hSt : zSt G s) (hret : zRi p l e ({ frames := 2, cells := 0, slots := 0, locals := 43 } : Room) s m args below meth c Q cX6_bend G false O post) (x1 : Int32) (x2 : Int64) (t0 : Int32) (M : zM) (H : Heap) (locs : List Loc) (ls : Array Slot) (hH : zH G false s H locs M O) (hl : lv_has ls 5 [(0, .ref (G.1 21)), (1, .int x1), (2, .long x2)]) (h : pX6_bend_b26 post x1 x2 t0 M) : W p l e ({ frames := 2, cells := 0, slots := 0, locals := 43 } : Room) s m args below meth c H locs 0 0 Q (F0 m 26 ls [.int t0]) := by
  obtain ⟨hx, hb, hml, hown, hts⟩ := id hF
  unfold pX6_bend_b26 at h
  refine lv_istore (lv' := [(4, .int t0), (0, .ref (G.1 21)), (1, .int x1), (2, .long x2)]) hx hb dX6_bend_26 hl (by decide) rfl (fun ls hl => ?_)
  refine lv_aload_n hx hb dX6_bend_28 rfl (lv_at hl 1 rfl) ?_
  refine zget (v := .ref (G.1 28)) hF hSt hH 21 (by decide) rfl (zE_21 _ _ _) (C := RX6) (T := TX6) (N := 31) rfl znX6_bend_X6 10 (by decide) (List.mem_of_getElem? (i := 1) rfl) rfl dX6_bend_29 ?_
  refine lv_iload_n hx hb dX6_bend_32 rfl (lv_at hl 2 rfl) ?_
  refine lv_lload_n hx hb dX6_bend_33 rfl (lv_at hl 3 rfl) ?_
  obtain ⟨q34, h⟩ := h
  refine zlast hF hSt hH 28 (by decide) rfl (zE_28 _) (x := x2) q34 dX6_bend_34 (fun H locs hH => ?_)
  refine lv_iload hx hb dX6_bend_35 (lv_at hl 0 rfl) ?_
  exact hret _ _ _ _ _ _ dX6_bend_37 h hH
def pX6_bend (M : zM) (x1 : Int32) (x2 : Int64) (post : Int32 → zM → Prop) : Prop :=
  pX6_isLine M x1 (fun r2 => (¬ (r2 = 0) → vp_in x1 30 ∧ ((lg_cmp (M.2 28 x1.toNatClampNeg) (0 : Int64)) = 0 → pX6_bend_b26 post x1 x2 (0 : Int32) M) ∧ (¬ ((lg_cmp (M.2 28 x1.toNatClampNeg) (0 : Int64)) = 0) → pX6_bend_b26 post x1 x2 (1 : Int32) M)) ∧ (r2 = 0 → post (-1 : Int32) M))
set_option maxHeartbeats 4000000 in
set_option maxRecDepth 100000 in
theorem wX6_bend {M : zM} {post : Int32 → zM → Prop} (hF : CallFix p m c cX6_bend 5 s args wsX6_bend RX6) (hSt : zSt G s) (hret : zRi p l e ({ frames := 2, cells := 0, slots := 0, locals := 43 } : Room) s m args below meth c Q cX6_bend G false O post) (x1 : Int32) (x2 : Int64) (H : Heap) (locs : List Loc) (ls : Array Slot) (hH : zH G false s H locs M O) (hl : lv_has ls 5 [(0, .ref (G.1 21)), (1, .int x1), (2, .long x2)]) (h : pX6_bend M x1 x2 post) : W p l e ({ frames := 2, cells := 0, slots := 0, locals := 43 } : Room) s m args below meth c H locs 0 0 Q (F0 m 0 ls []) := by
  obtain ⟨hx, hb, hml, hown, hts⟩ := id hF
  unfold pX6_bend at h
  refine lv_aload_n hx hb dX6_bend_0 rfl (lv_at hl 0 rfl) ?_
  refine lv_iload_n hx hb dX6_bend_1 rfl (lv_at hl 1 rfl) ?_
  refine zcalliP hH (va_runV (As := [.int x1]) (rest := []) hF (kX6_isLine l G M O x1 _ h) (cwV 1 hts gX6_bend_X6_isLine rfl rfl rfl ⟨rfl, zdX6_isLine⟩ ⟨Nat.le_of_ble_eq_true rfl, Nat.le_of_ble_eq_true rfl⟩) (zpreV hSt hH 21 (by decide) rfl (zE_21 _ _ _) (q := (RX6, TX6, 31)) rfl [.int x1]) rfl rfl hl.1 rfl (lv_room (Nat.le_of_ble_eq_true rfl)) dX6_bend_2 ⟨Nat.zero_le _, Nat.zero_le _⟩) (fun r2 H locs h hH => ?_)
  refine lv_if_ne (tgt := 10) hx hb dX6_bend_5 (by decide) (fun q5 => ?_) (fun q5 => ?_)
  · have h := h.1 q5
    refine lv_aload_n hx hb dX6_bend_10 rfl (lv_at hl 0 rfl) ?_
    refine zget (v := .ref (G.1 28)) hF hSt hH 21 (by decide) rfl (zE_21 _ _ _) (C := RX6) (T := TX6) (N := 31) rfl znX6_bend_X6 10 (by decide) (List.mem_of_getElem? (i := 1) rfl) rfl dX6_bend_11 ?_
    refine lv_iload_n hx hb dX6_bend_14 rfl (lv_at hl 1 rfl) ?_
    obtain ⟨q15, h⟩ := h
    refine zlald hF hSt hH 28 (by decide) rfl (zE_28 _ _ _) q15 dX6_bend_15 ?_
    refine lv_lconst (v := (0 : Int64)) hx hb dX6_bend_16 (by decide) ?_
    refine W.lcmp hx hb dX6_bend_17 ?_
    refine lv_if_eq (tgt := 25) hx hb dX6_bend_18 (by decide) (fun q18 => ?_) (fun q18 => ?_)
    · have h := h.1 q18
      refine lv_iconst (v := (0 : Int32)) hx hb dX6_bend_25 (by decide) ?_
      exact wX6_bend_b26 hF hSt hret x1 x2 (0 : Int32) M H locs ls hH (lv_sub hl [0, 1, 2] rfl) h
    · have h := h.2 q18
      refine lv_iconst (v := (1 : Int32)) hx hb dX6_bend_21 (by decide) ?_
      refine lv_goto (tgt := 26) hx hb dX6_bend_22 (by decide) ?_
      exact wX6_bend_b26 hF hSt hret x1 x2 (1 : Int32) M H locs ls hH (lv_sub hl [0, 1, 2] rfl) h
  · have h := h.2 q5
    refine lv_iconst (v := (-1 : Int32)) hx hb dX6_bend_8 (by decide) ?_
    exact hret _ _ _ _ _ _ dX6_bend_9 h hH
set_option maxRecDepth 100000 in
theorem kX6_bend (l : Launch) (G : zG) (M O : zM) (x1 : Int32) (x2 : Int64) (post : Int32 → zM → Prop) (h : pX6_bend M x1 x2 post) : Met l yX6_bend wsX6_bend ({ frames := 2, cells := 0, slots := 0, locals := 43 } : Room) (zPc G false M O [.ref (G.1 21), .int x1, .long x2]) (va_Qi post (zB G false O) (zAA G)) 0 0 (zAA G) :=
  zmet_i (by decide) rfl (Nat.le_of_ble_eq_true rfl) (fun hF hSt hret H locs ls hH hl => wX6_bend hF hSt hret x1 x2 H locs ls hH hl h)
end
theorem znX6_isPassing_X6 : ∀ w ∈ wsX60, w ∈ wsX6_isPassing := fun _ h => List.mem_cons_of_mem _ (List.mem_append_right _ h)
theorem zdX6_isPassing : yX6_isPassing.cls ≠ "java/lang/invoke/MethodHandle" ∧ yX6_isPassing.cls ≠ "java/lang/invoke/VarHandle" ∧ (parseMethodDescriptor yX6_isPassing.desc).map (fun d => d.parameters.length) = some 1 := by decide +kernel
-- MixingRelaysModel isPassing(I)Z
section
variable {p : Program} {l : Launch} {e : Env} {s : State} {m : MethodId} {args : Array Value} {below : List Frame} {meth : Method} {c : Code} {Q : State → Prop} {G : zG} {O : zM}
def pX6_isPassing_b60 (M : zM) (post : Int32 → Prop) (t0 : Int32) : Prop :=
  (t0 = 0 ∨ t0 = 1) ∧ post t0
set_option maxHeartbeats 4000000 in
set_option maxRecDepth 100000 in
theorem wX6_isPassing_b60 {M : zM} {post : Int32 → Prop}  (hF : CallFix p m c cX6_isPassing 4 s args wsX6_isPassing RX6) (hSt : zSt G s) (hret : zRz p l e ({ frames := 2, cells := 0, slots := 0, locals := 44 } : Room) s m args below meth c Q cX6_isPassing G false O (fun r M1 => M1 = M ∧ post r)) (t0 : Int32) (H : Heap) (locs : List Loc) (ls : Array Slot) (hH : zH G false s H locs M O) (hl : lv_has ls 4 []) (h : pX6_isPassing_b60 M post t0) : W p l e ({ frames := 2, cells := 0, slots := 0, locals := 44 } : Room) s m args below meth c H locs 0 0 Q (F0 m 60 ls [.int t0]) := by
  obtain ⟨hx, hb, hml, hown, hts⟩ := id hF
  unfold pX6_isPassing_b60 at h
  exact hret _ _ _ _ _ _ dX6_isPassing_60 ⟨h.1, rfl, h.2⟩ hH
def pX6_isPassing_b59 (M : zM) (post : Int32 → Prop) : Prop :=
  pX6_isPassing_b60 M post (0 : Int32)
set_option maxHeartbeats 4000000 in
set_option maxRecDepth 100000 in
theorem wX6_isPassing_b59 {M : zM} {post : Int32 → Prop}  (hF : CallFix p m c cX6_isPassing 4 s args wsX6_isPassing RX6) (hSt : zSt G s) (hret : zRz p l e ({ frames := 2, cells := 0, slots := 0, locals := 44 } : Room) s m args below meth c Q cX6_isPassing G false O (fun r M1 => M1 = M ∧ post r))  (H : Heap) (locs : List Loc) (ls : Array Slot) (hH : zH G false s H locs M O) (hl : lv_has ls 4 []) (h : pX6_isPassing_b59 M post) : W p l e ({ frames := 2, cells := 0, slots := 0, locals := 44 } : Room) s m args below meth c H locs 0 0 Q (F0 m 59 ls []) := by
  obtain ⟨hx, hb, hml, hown, hts⟩ := id hF
  unfold pX6_isPassing_b59 at h
  refine lv_iconst (v := (0 : Int32)) hx hb dX6_isPassing_59 (by decide) ?_
  exact wX6_isPassing_b60 hF hSt hret (0 : Int32) H locs ls hH (lv_sub hl [] rfl) h
def pX6_isPassing_b33 (M : zM) (post : Int32 → Prop) (ag4 : Int32 → Int32 → Int32 → Prop) (x1 : Int32) (x3 : Int32) (t0 : Int32) (t1 : Int32) : Prop :=
  ag4 x1 (t1 + t0) (x3 + (1 : Int32))
set_option maxHeartbeats 4000000 in
set_option maxRecDepth 100000 in
theorem wX6_isPassing_b33 {M : zM} {post : Int32 → Prop} {ag4 : Int32 → Int32 → Int32 → Prop} (hF : CallFix p m c cX6_isPassing 4 s args wsX6_isPassing RX6) (hSt : zSt G s) (hret : zRz p l e ({ frames := 2, cells := 0, slots := 0, locals := 44 } : Room) s m args below meth c Q cX6_isPassing G false O (fun r M1 => M1 = M ∧ post r)) (hag4 : ∀ (x1 : Int32) (x2 : Int32) (x3 : Int32) (H : Heap) (locs : List Loc) (ls : Array Slot), ag4 x1 x2 x3 → zH G false s H locs M O → lv_has ls 4 [(0, .ref (G.1 21)), (1, .int x1), (2, .int x2), (3, .int x3)] → W p l e ({ frames := 2, cells := 0, slots := 0, locals := 44 } : Room) s m args below meth c H locs 0 0 Q (F0 m 4 ls [])) (x1 : Int32) (x3 : Int32) (t0 : Int32) (t1 : Int32) (H : Heap) (locs : List Loc) (ls : Array Slot) (hH : zH G false s H locs M O) (hl : lv_has ls 4 [(0, .ref (G.1 21)), (1, .int x1), (3, .int x3)]) (h : pX6_isPassing_b33 M post ag4 x1 x3 t0 t1) : W p l e ({ frames := 2, cells := 0, slots := 0, locals := 44 } : Room) s m args below meth c H locs 0 0 Q (F0 m 33 ls [.int t0, .int t1]) := by
  obtain ⟨hx, hb, hml, hown, hts⟩ := id hF
  unfold pX6_isPassing_b33 at h
  refine lv_iadd hx hb dX6_isPassing_33 ?_
  refine lv_istore_n (lv' := [(2, .int (t1 + t0)), (0, .ref (G.1 21)), (1, .int x1), (3, .int x3)]) hx hb dX6_isPassing_34 rfl hl (by decide) rfl (fun ls hl => ?_)
  refine lv_iinc (v := (x3 + (1 : Int32))) (lv' := [(3, .int (x3 + (1 : Int32))), (2, .int (t1 + t0)), (0, .ref (G.1 21)), (1, .int x1)]) hx hb dX6_isPassing_35 hl (k := 3) rfl rfl (by decide) rfl (fun ls hl => ?_)
  refine lv_goto (tgt := 4) hx hb dX6_isPassing_38 (by decide) ?_
  exact hag4 x1 (t1 + t0) (x3 + (1 : Int32)) H locs ls h hH (lv_sub hl [2, 3, 1, 0] rfl)
def pX6_isPassing_b4 (M : zM) (post : Int32 → Prop) (ag4 : Int32 → Int32 → Int32 → Prop) (x1 : Int32) (x2 : Int32) (x3 : Int32) : Prop :=
  pX6_ins M x1 (fun r7 => (r7 ≤ x3 → vp_in x1 30 ∧ ((M.1 24 x1.toNatClampNeg) = 0 → pX6_isPassing_b59 M post) ∧ (¬ ((M.1 24 x1.toNatClampNeg) = 0) → ((1 : Int32) < x2 → pX6_isPassing_b59 M post) ∧ (¬ ((1 : Int32) < x2) → pX6_isPassing_b60 M post (1 : Int32)))) ∧ (¬ (r7 ≤ x3) → vp_in (((30 : Int32) * x1) + x3) 900 ∧ ((M.1 29 ((((30 : Int32) * x1) + x3)).toNatClampNeg) = 0 → pX6_isPassing_b33 M post ag4 x1 x3 (0 : Int32) x2) ∧ (¬ ((M.1 29 ((((30 : Int32) * x1) + x3)).toNatClampNeg) = 0) → pX6_isPassing_b33 M post ag4 x1 x3 (1 : Int32) x2)))
set_option maxHeartbeats 4000000 in
set_option maxRecDepth 100000 in
theorem wX6_isPassing_b4 {M : zM} {post : Int32 → Prop} {ag4 : Int32 → Int32 → Int32 → Prop} (hF : CallFix p m c cX6_isPassing 4 s args wsX6_isPassing RX6) (hSt : zSt G s) (hret : zRz p l e ({ frames := 2, cells := 0, slots := 0, locals := 44 } : Room) s m args below meth c Q cX6_isPassing G false O (fun r M1 => M1 = M ∧ post r)) (hag4 : ∀ (x1 : Int32) (x2 : Int32) (x3 : Int32) (H : Heap) (locs : List Loc) (ls : Array Slot), ag4 x1 x2 x3 → zH G false s H locs M O → lv_has ls 4 [(0, .ref (G.1 21)), (1, .int x1), (2, .int x2), (3, .int x3)] → W p l e ({ frames := 2, cells := 0, slots := 0, locals := 44 } : Room) s m args below meth c H locs 0 0 Q (F0 m 4 ls [])) (x1 : Int32) (x2 : Int32) (x3 : Int32) (H : Heap) (locs : List Loc) (ls : Array Slot) (hH : zH G false s H locs M O) (hl : lv_has ls 4 [(0, .ref (G.1 21)), (1, .int x1), (2, .int x2), (3, .int x3)]) (h : pX6_isPassing_b4 M post ag4 x1 x2 x3) : W p l e ({ frames := 2, cells := 0, slots := 0, locals := 44 } : Room) s m args below meth c H locs 0 0 Q (F0 m 4 ls []) := by
  obtain ⟨hx, hb, hml, hown, hts⟩ := id hF
  unfold pX6_isPassing_b4 at h
  refine lv_iload_n hx hb dX6_isPassing_4 rfl (lv_at hl 3 rfl) ?_
  refine lv_aload_n hx hb dX6_isPassing_5 rfl (lv_at hl 0 rfl) ?_
  refine lv_iload_n hx hb dX6_isPassing_6 rfl (lv_at hl 1 rfl) ?_
  refine zcalliP hH (va_runV (As := [.int x1]) (rest := [.int x3]) hF (kX6_ins l G M O x1 _ h) (cwV 1 hts gX6_isPassing_X6_ins rfl rfl rfl ⟨rfl, zdX6_ins⟩ ⟨Nat.le_of_ble_eq_true rfl, Nat.le_of_ble_eq_true rfl⟩) (zpreV hSt hH 21 (by decide) rfl (zE_21 _ _ _) (q := (RX6, TX6, 31)) rfl [.int x1]) rfl rfl hl.1 rfl (lv_room (Nat.le_of_ble_eq_true rfl)) dX6_isPassing_7 ⟨Nat.zero_le _, Nat.zero_le _⟩) (fun r7 H locs h hH => ?_)
  refine lv_icmp_ge (tgt := 41) hx hb dX6_isPassing_10 (by decide) (fun q10 => ?_) (fun q10 => ?_)
  · have h := h.1 q10
    refine lv_aload_n hx hb dX6_isPassing_41 rfl (lv_at hl 0 rfl) ?_
    refine zget (v := .ref (G.1 24)) hF hSt hH 21 (by decide) rfl (zE_21 _ _ _) (C := RX6) (T := TX6) (N := 31) rfl znX6_isPassing_X6 6 (by decide) (List.mem_of_getElem? (i := 2) rfl) rfl dX6_isPassing_42 ?_
    refine lv_iload_n hx hb dX6_isPassing_45 rfl (lv_at hl 1 rfl) ?_
    obtain ⟨q46, h⟩ := h
    refine zald hF hSt hH 24 (by decide) rfl (zE_24 _ _ _) q46 dX6_isPassing_46 ?_
    refine lv_if_eq (tgt := 59) hx hb dX6_isPassing_47 (by decide) (fun q47 => ?_) (fun q47 => ?_)
    · have h := h.1 q47
      exact wX6_isPassing_b59 hF hSt hret  H locs ls hH (lv_sub hl [] rfl) h
    · have h := h.2 q47
      refine lv_iload_n hx hb dX6_isPassing_50 rfl (lv_at hl 2 rfl) ?_
      refine lv_iconst (v := (1 : Int32)) hx hb dX6_isPassing_51 (by decide) ?_
      refine lv_icmp_gt (tgt := 59) hx hb dX6_isPassing_52 (by decide) (fun q52 => ?_) (fun q52 => ?_)
      · have h := h.1 q52
        exact wX6_isPassing_b59 hF hSt hret  H locs ls hH (lv_sub hl [] rfl) h
      · have h := h.2 q52
        refine lv_iconst (v := (1 : Int32)) hx hb dX6_isPassing_55 (by decide) ?_
        refine lv_goto (tgt := 60) hx hb dX6_isPassing_56 (by decide) ?_
        exact wX6_isPassing_b60 hF hSt hret (1 : Int32) H locs ls hH (lv_sub hl [] rfl) h
  · have h := h.2 q10
    refine lv_iload_n hx hb dX6_isPassing_13 rfl (lv_at hl 2 rfl) ?_
    refine lv_aload_n hx hb dX6_isPassing_14 rfl (lv_at hl 0 rfl) ?_
    refine zget (v := .ref (G.1 29)) hF hSt hH 21 (by decide) rfl (zE_21 _ _ _) (C := RX6) (T := TX6) (N := 31) rfl znX6_isPassing_X6 11 (by decide) (List.mem_of_getElem? (i := 1) rfl) rfl dX6_isPassing_15 ?_
    refine lv_bipush (v := (30 : Int32)) hx hb dX6_isPassing_18 (by decide) ?_
    refine lv_iload_n hx hb dX6_isPassing_20 rfl (lv_at hl 1 rfl) ?_
    refine lv_imul hx hb dX6_isPassing_21 ?_
    refine lv_iload_n hx hb dX6_isPassing_22 rfl (lv_at hl 3 rfl) ?_
    refine lv_iadd hx hb dX6_isPassing_23 ?_
    obtain ⟨q24, h⟩ := h
    refine zald hF hSt hH 29 (by decide) rfl (zE_29 _ _ _) q24 dX6_isPassing_24 ?_
    refine lv_if_eq (tgt := 32) hx hb dX6_isPassing_25 (by decide) (fun q25 => ?_) (fun q25 => ?_)
    · have h := h.1 q25
      refine lv_iconst (v := (0 : Int32)) hx hb dX6_isPassing_32 (by decide) ?_
      exact wX6_isPassing_b33 hF hSt hret hag4 x1 x3 (0 : Int32) x2 H locs ls hH (lv_sub hl [0, 1, 3] rfl) h
    · have h := h.2 q25
      refine lv_iconst (v := (1 : Int32)) hx hb dX6_isPassing_28 (by decide) ?_
      refine lv_goto (tgt := 33) hx hb dX6_isPassing_29 (by decide) ?_
      exact wX6_isPassing_b33 hF hSt hret hag4 x1 x3 (1 : Int32) x2 H locs ls hH (lv_sub hl [0, 1, 3] rfl) h
def pX6_isPassing_L4 (M : zM) (post : Int32 → Prop) (x1 : Int32) (x2 : Int32) (x3 : Int32) : Prop :=
  ∃ I : Nat → Int32 → Int32 → Int32 → Prop, (∃ n, I n x1 x2 x3) ∧ ∀ n x1 x2 x3, I n x1 x2 x3 → pX6_isPassing_b4 M post (fun x1 x2 x3 => ∃ k, k < n ∧ I k x1 x2 x3) x1 x2 x3
set_option maxHeartbeats 4000000 in
theorem wX6_isPassing_L4 {M : zM} {post : Int32 → Prop}  (hF : CallFix p m c cX6_isPassing 4 s args wsX6_isPassing RX6) (hSt : zSt G s) (hret : zRz p l e ({ frames := 2, cells := 0, slots := 0, locals := 44 } : Room) s m args below meth c Q cX6_isPassing G false O (fun r M1 => M1 = M ∧ post r)) (x1 : Int32) (x2 : Int32) (x3 : Int32) (H : Heap) (locs : List Loc) (ls : Array Slot) (hH : zH G false s H locs M O) (hl : lv_has ls 4 [(0, .ref (G.1 21)), (1, .int x1), (2, .int x2), (3, .int x3)]) (h : pX6_isPassing_L4 M post x1 x2 x3) : W p l e ({ frames := 2, cells := 0, slots := 0, locals := 44 } : Room) s m args below meth c H locs 0 0 Q (F0 m 4 ls []) := by
  obtain ⟨I, ⟨n, hI⟩, hs⟩ := h
  have key : ∀ (n : Nat) (x1 : Int32) (x2 : Int32) (x3 : Int32) (H : Heap) (locs : List Loc) (ls : Array Slot), I n x1 x2 x3 → zH G false s H locs M O → lv_has ls 4 [(0, .ref (G.1 21)), (1, .int x1), (2, .int x2), (3, .int x3)] → W p l e ({ frames := 2, cells := 0, slots := 0, locals := 44 } : Room) s m args below meth c H locs 0 0 Q (F0 m 4 ls []) := by
    intro n
    induction n using Nat.strongRecOn with
    | _ n ih =>
      intro x1 x2 x3 H locs ls hI hH hl
      exact wX6_isPassing_b4 hF hSt hret (fun x1 x2 x3 H locs ls h hH hl => by obtain ⟨k, hk, hI⟩ := h; exact ih k hk x1 x2 x3 H locs ls hI hH hl) x1 x2 x3 H locs ls hH hl (hs n x1 x2 x3 hI)
  exact key n x1 x2 x3 H locs ls hI hH hl
def pX6_isPassing (M : zM) (x1 : Int32) (post : Int32 → Prop) : Prop :=
  pX6_isPassing_L4 M post x1 (0 : Int32) (0 : Int32)
set_option maxHeartbeats 4000000 in
set_option maxRecDepth 100000 in
theorem wX6_isPassing {M : zM} {post : Int32 → Prop} (hF : CallFix p m c cX6_isPassing 4 s args wsX6_isPassing RX6) (hSt : zSt G s) (hret : zRz p l e ({ frames := 2, cells := 0, slots := 0, locals := 44 } : Room) s m args below meth c Q cX6_isPassing G false O (fun r M1 => M1 = M ∧ post r)) (x1 : Int32) (H : Heap) (locs : List Loc) (ls : Array Slot) (hH : zH G false s H locs M O) (hl : lv_has ls 4 [(0, .ref (G.1 21)), (1, .int x1)]) (h : pX6_isPassing M x1 post) : W p l e ({ frames := 2, cells := 0, slots := 0, locals := 44 } : Room) s m args below meth c H locs 0 0 Q (F0 m 0 ls []) := by
  obtain ⟨hx, hb, hml, hown, hts⟩ := id hF
  unfold pX6_isPassing at h
  refine lv_iconst (v := (0 : Int32)) hx hb dX6_isPassing_0 (by decide) ?_
  refine lv_istore_n (lv' := [(2, .int (0 : Int32)), (0, .ref (G.1 21)), (1, .int x1)]) hx hb dX6_isPassing_1 rfl hl (by decide) rfl (fun ls hl => ?_)
  refine lv_iconst (v := (0 : Int32)) hx hb dX6_isPassing_2 (by decide) ?_
  refine lv_istore_n (lv' := [(3, .int (0 : Int32)), (2, .int (0 : Int32)), (0, .ref (G.1 21)), (1, .int x1)]) hx hb dX6_isPassing_3 rfl hl (by decide) rfl (fun ls hl => ?_)
  exact wX6_isPassing_L4 hF hSt hret x1 (0 : Int32) (0 : Int32) H locs ls hH (lv_sub hl [2, 3, 1, 0] rfl) h
set_option maxRecDepth 100000 in
theorem kX6_isPassing (l : Launch) (G : zG) (M O : zM) (x1 : Int32) (post : Int32 → Prop) (h : pX6_isPassing M x1 post) : Met l yX6_isPassing wsX6_isPassing ({ frames := 2, cells := 0, slots := 0, locals := 44 } : Room) (zPc G false M O [.ref (G.1 21), .int x1]) (va_Qi (fun r M1 => M1 = M ∧ post r) (zB G false O) (zAA G)) 0 0 (zAA G) :=
  zmet_z (by decide) rfl (Nat.le_of_ble_eq_true rfl) (fun hF hSt hret H locs ls hH hl => wX6_isPassing hF hSt hret x1 H locs ls hH hl h)
end
theorem znX6_about_X6 : ∀ w ∈ wsX60, w ∈ wsX6_about := fun _ h => List.mem_cons_of_mem _ (List.mem_append_right _ h)
theorem zdX6_about : yX6_about.cls ≠ "java/lang/invoke/MethodHandle" ∧ yX6_about.cls ≠ "java/lang/invoke/VarHandle" ∧ (parseMethodDescriptor yX6_about.desc).map (fun d => d.parameters.length) = some 2 := by decide +kernel
-- MixingRelaysModel about(II)I
section
variable {p : Program} {l : Launch} {e : Env} {s : State} {m : MethodId} {args : Array Value} {below : List Frame} {meth : Method} {c : Code} {Q : State → Prop} {G : zG} {O : zM}
def pX6_about_b86 (M : zM) (post : Int32 → Prop) (t0 : Int32) : Prop :=
  post t0
set_option maxHeartbeats 4000000 in
set_option maxRecDepth 100000 in
theorem wX6_about_b86 {M : zM} {post : Int32 → Prop}  (hF : CallFix p m c cX6_about 3 s args wsX6_about RX6) (hSt : zSt G s) (hret : zRi p l e ({ frames := 3, cells := 0, slots := 0, locals := 67 } : Room) s m args below meth c Q cX6_about G false O (fun r M1 => M1 = M ∧ post r)) (t0 : Int32) (H : Heap) (locs : List Loc) (ls : Array Slot) (hH : zH G false s H locs M O) (hl : lv_has ls 3 []) (h : pX6_about_b86 M post t0) : W p l e ({ frames := 3, cells := 0, slots := 0, locals := 67 } : Room) s m args below meth c H locs 0 0 Q (F0 m 86 ls [.int t0]) := by
  obtain ⟨hx, hb, hml, hown, hts⟩ := id hF
  unfold pX6_about_b86 at h
  exact hret _ _ _ _ _ _ dX6_about_86 ⟨rfl, h⟩ hH
def pX6_about_b101 (M : zM) (post : Int32 → Prop) (t0 : Int32) : Prop :=
  post t0
set_option maxHeartbeats 4000000 in
set_option maxRecDepth 100000 in
theorem wX6_about_b101 {M : zM} {post : Int32 → Prop}  (hF : CallFix p m c cX6_about 3 s args wsX6_about RX6) (hSt : zSt G s) (hret : zRi p l e ({ frames := 3, cells := 0, slots := 0, locals := 67 } : Room) s m args below meth c Q cX6_about G false O (fun r M1 => M1 = M ∧ post r)) (t0 : Int32) (H : Heap) (locs : List Loc) (ls : Array Slot) (hH : zH G false s H locs M O) (hl : lv_has ls 3 []) (h : pX6_about_b101 M post t0) : W p l e ({ frames := 3, cells := 0, slots := 0, locals := 67 } : Room) s m args below meth c H locs 0 0 Q (F0 m 101 ls [.int t0]) := by
  obtain ⟨hx, hb, hml, hown, hts⟩ := id hF
  unfold pX6_about_b101 at h
  exact hret _ _ _ _ _ _ dX6_about_101 ⟨rfl, h⟩ hH
def pX6_about_b118 (M : zM) (post : Int32 → Prop) (t0 : Int32) : Prop :=
  post t0
set_option maxHeartbeats 4000000 in
set_option maxRecDepth 100000 in
theorem wX6_about_b118 {M : zM} {post : Int32 → Prop}  (hF : CallFix p m c cX6_about 3 s args wsX6_about RX6) (hSt : zSt G s) (hret : zRi p l e ({ frames := 3, cells := 0, slots := 0, locals := 67 } : Room) s m args below meth c Q cX6_about G false O (fun r M1 => M1 = M ∧ post r)) (t0 : Int32) (H : Heap) (locs : List Loc) (ls : Array Slot) (hH : zH G false s H locs M O) (hl : lv_has ls 3 []) (h : pX6_about_b118 M post t0) : W p l e ({ frames := 3, cells := 0, slots := 0, locals := 67 } : Room) s m args below meth c H locs 0 0 Q (F0 m 118 ls [.int t0]) := by
  obtain ⟨hx, hb, hml, hown, hts⟩ := id hF
  unfold pX6_about_b118 at h
  exact hret _ _ _ _ _ _ dX6_about_118 ⟨rfl, h⟩ hH
def pX6_about_b132 (M : zM) (post : Int32 → Prop) (t0 : Int32) : Prop :=
  post t0
set_option maxHeartbeats 4000000 in
set_option maxRecDepth 100000 in
theorem wX6_about_b132 {M : zM} {post : Int32 → Prop}  (hF : CallFix p m c cX6_about 3 s args wsX6_about RX6) (hSt : zSt G s) (hret : zRi p l e ({ frames := 3, cells := 0, slots := 0, locals := 67 } : Room) s m args below meth c Q cX6_about G false O (fun r M1 => M1 = M ∧ post r)) (t0 : Int32) (H : Heap) (locs : List Loc) (ls : Array Slot) (hH : zH G false s H locs M O) (hl : lv_has ls 3 []) (h : pX6_about_b132 M post t0) : W p l e ({ frames := 3, cells := 0, slots := 0, locals := 67 } : Room) s m args below meth c H locs 0 0 Q (F0 m 132 ls [.int t0]) := by
  obtain ⟨hx, hb, hml, hown, hts⟩ := id hF
  unfold pX6_about_b132 at h
  exact hret _ _ _ _ _ _ dX6_about_132 ⟨rfl, h⟩ hH
def pX6_about (M : zM) (x1 : Int32) (x2 : Int32) (post : Int32 → Prop) : Prop :=
  pX6_isLine M x1 (fun r2 => (¬ (r2 = 0) → (x2 = (0 : Int32) → vp_in x1 30 ∧ post (M.1 24 x1.toNatClampNeg)) ∧ (x2 = (1 : Int32) → vp_in x1 30 ∧ post (M.1 25 x1.toNatClampNeg)) ∧ (x2 = (2 : Int32) → pX6_ins M x1 (fun r68 => post r68)) ∧ (x2 = (3 : Int32) → vp_in x1 30 ∧ ((M.1 26 x1.toNatClampNeg) = 0 → pX6_about_b86 M post (0 : Int32)) ∧ (¬ ((M.1 26 x1.toNatClampNeg) = 0) → pX6_about_b86 M post (1 : Int32))) ∧ (x2 = (4 : Int32) → vp_in x1 30 ∧ ((M.1 27 x1.toNatClampNeg) = 0 → pX6_about_b101 M post (0 : Int32)) ∧ (¬ ((M.1 27 x1.toNatClampNeg) = 0) → pX6_about_b101 M post (1 : Int32))) ∧ (x2 = (5 : Int32) → vp_in x1 30 ∧ ((lg_cmp (M.2 28 x1.toNatClampNeg) (0 : Int64)) = 0 → pX6_about_b118 M post (0 : Int32)) ∧ (¬ ((lg_cmp (M.2 28 x1.toNatClampNeg) (0 : Int64)) = 0) → pX6_about_b118 M post (1 : Int32))) ∧ (x2 = (6 : Int32) → pX6_isPassing M x1 (fun r121 => (r121 = 0 → pX6_about_b132 M post (0 : Int32)) ∧ (¬ (r121 = 0) → pX6_about_b132 M post (1 : Int32)))) ∧ (¬ (x2 = (0 : Int32)) → ¬ (x2 = (1 : Int32)) → ¬ (x2 = (2 : Int32)) → ¬ (x2 = (3 : Int32)) → ¬ (x2 = (4 : Int32)) → ¬ (x2 = (5 : Int32)) → ¬ (x2 = (6 : Int32)) → post (-1 : Int32))) ∧ (r2 = 0 → post (-1 : Int32)))
set_option maxHeartbeats 4000000 in
set_option maxRecDepth 100000 in
theorem wX6_about {M : zM} {post : Int32 → Prop} (hF : CallFix p m c cX6_about 3 s args wsX6_about RX6) (hSt : zSt G s) (hret : zRi p l e ({ frames := 3, cells := 0, slots := 0, locals := 67 } : Room) s m args below meth c Q cX6_about G false O (fun r M1 => M1 = M ∧ post r)) (x1 : Int32) (x2 : Int32) (H : Heap) (locs : List Loc) (ls : Array Slot) (hH : zH G false s H locs M O) (hl : lv_has ls 3 [(0, .ref (G.1 21)), (1, .int x1), (2, .int x2)]) (h : pX6_about M x1 x2 post) : W p l e ({ frames := 3, cells := 0, slots := 0, locals := 67 } : Room) s m args below meth c H locs 0 0 Q (F0 m 0 ls []) := by
  obtain ⟨hx, hb, hml, hown, hts⟩ := id hF
  unfold pX6_about at h
  refine lv_aload_n hx hb dX6_about_0 rfl (lv_at hl 0 rfl) ?_
  refine lv_iload_n hx hb dX6_about_1 rfl (lv_at hl 1 rfl) ?_
  refine zcalliP hH (va_runV (As := [.int x1]) (rest := []) hF (kX6_isLine l G M O x1 _ h) (cwV 1 hts gX6_about_X6_isLine rfl rfl rfl ⟨rfl, zdX6_isLine⟩ ⟨Nat.le_of_ble_eq_true rfl, Nat.le_of_ble_eq_true rfl⟩) (zpreV hSt hH 21 (by decide) rfl (zE_21 _ _ _) (q := (RX6, TX6, 31)) rfl [.int x1]) rfl rfl hl.1 rfl (lv_room (Nat.le_of_ble_eq_true rfl)) dX6_about_2 ⟨Nat.zero_le _, Nat.zero_le _⟩) (fun r2 H locs h hH => ?_)
  refine lv_if_ne (tgt := 10) hx hb dX6_about_5 (by decide) (fun q5 => ?_) (fun q5 => ?_)
  · have h := h.1 q5
    refine lv_iload_n hx hb dX6_about_10 rfl (lv_at hl 2 rfl) ?_
    by_cases q11_0 : x2 = (0 : Int32)
    · have h := h.1 q11_0
      refine lv_tableIn (off := 41) (tgt := 52) hx hb dX6_about_11 (by rw [q11_0]; decide) (by rw [q11_0]; decide) (by rw [q11_0]; decide) (by decide) ?_
      refine lv_aload_n hx hb dX6_about_52 rfl (lv_at hl 0 rfl) ?_
      refine zget (v := .ref (G.1 24)) hF hSt hH 21 (by decide) rfl (zE_21 _ _ _) (C := RX6) (T := TX6) (N := 31) rfl znX6_about_X6 6 (by decide) (List.mem_of_getElem? (i := 1) rfl) rfl dX6_about_53 ?_
      refine lv_iload_n hx hb dX6_about_56 rfl (lv_at hl 1 rfl) ?_
      obtain ⟨q57, h⟩ := h
      refine zald hF hSt hH 24 (by decide) rfl (zE_24 _ _ _) q57 dX6_about_57 ?_
      exact hret _ _ _ _ _ _ dX6_about_58 ⟨rfl, h⟩ hH
    · have h := h.2
      by_cases q11_1 : x2 = (1 : Int32)
      · have h := h.1 q11_1
        refine lv_tableIn (off := 48) (tgt := 59) hx hb dX6_about_11 (by rw [q11_1]; decide) (by rw [q11_1]; decide) (by rw [q11_1]; decide) (by decide) ?_
        refine lv_aload_n hx hb dX6_about_59 rfl (lv_at hl 0 rfl) ?_
        refine zget (v := .ref (G.1 25)) hF hSt hH 21 (by decide) rfl (zE_21 _ _ _) (C := RX6) (T := TX6) (N := 31) rfl znX6_about_X6 7 (by decide) (List.mem_of_getElem? (i := 2) rfl) rfl dX6_about_60 ?_
        refine lv_iload_n hx hb dX6_about_63 rfl (lv_at hl 1 rfl) ?_
        obtain ⟨q64, h⟩ := h
        refine zald hF hSt hH 25 (by decide) rfl (zE_25 _ _ _) q64 dX6_about_64 ?_
        exact hret _ _ _ _ _ _ dX6_about_65 ⟨rfl, h⟩ hH
      · have h := h.2
        by_cases q11_2 : x2 = (2 : Int32)
        · have h := h.1 q11_2
          refine lv_tableIn (off := 55) (tgt := 66) hx hb dX6_about_11 (by rw [q11_2]; decide) (by rw [q11_2]; decide) (by rw [q11_2]; decide) (by decide) ?_
          refine lv_aload_n hx hb dX6_about_66 rfl (lv_at hl 0 rfl) ?_
          refine lv_iload_n hx hb dX6_about_67 rfl (lv_at hl 1 rfl) ?_
          refine zcalliP hH (va_runV (As := [.int x1]) (rest := []) hF (kX6_ins l G M O x1 _ h) (cwV 1 hts gX6_about_X6_ins rfl rfl rfl ⟨rfl, zdX6_ins⟩ ⟨Nat.le_of_ble_eq_true rfl, Nat.le_of_ble_eq_true rfl⟩) (zpreV hSt hH 21 (by decide) rfl (zE_21 _ _ _) (q := (RX6, TX6, 31)) rfl [.int x1]) rfl rfl hl.1 rfl (lv_room (Nat.le_of_ble_eq_true rfl)) dX6_about_68 ⟨Nat.zero_le _, Nat.zero_le _⟩) (fun r68 H locs h hH => ?_)
          exact hret _ _ _ _ _ _ dX6_about_71 ⟨rfl, h⟩ hH
        · have h := h.2
          by_cases q11_3 : x2 = (3 : Int32)
          · have h := h.1 q11_3
            refine lv_tableIn (off := 61) (tgt := 72) hx hb dX6_about_11 (by rw [q11_3]; decide) (by rw [q11_3]; decide) (by rw [q11_3]; decide) (by decide) ?_
            refine lv_aload_n hx hb dX6_about_72 rfl (lv_at hl 0 rfl) ?_
            refine zget (v := .ref (G.1 26)) hF hSt hH 21 (by decide) rfl (zE_21 _ _ _) (C := RX6) (T := TX6) (N := 31) rfl znX6_about_X6 8 (by decide) (List.mem_of_getElem? (i := 3) rfl) rfl dX6_about_73 ?_
            refine lv_iload_n hx hb dX6_about_76 rfl (lv_at hl 1 rfl) ?_
            obtain ⟨q77, h⟩ := h
            refine zzald hF hSt hH 26 (by decide) rfl (zE_26 _ _ _) q77 dX6_about_77 ?_
            refine lv_if_eq (tgt := 85) hx hb dX6_about_78 (by decide) (fun q78 => ?_) (fun q78 => ?_)
            · have h := h.1 q78
              refine lv_iconst (v := (0 : Int32)) hx hb dX6_about_85 (by decide) ?_
              exact wX6_about_b86 hF hSt hret (0 : Int32) H locs ls hH (lv_sub hl [] rfl) h
            · have h := h.2 q78
              refine lv_iconst (v := (1 : Int32)) hx hb dX6_about_81 (by decide) ?_
              refine lv_goto (tgt := 86) hx hb dX6_about_82 (by decide) ?_
              exact wX6_about_b86 hF hSt hret (1 : Int32) H locs ls hH (lv_sub hl [] rfl) h
          · have h := h.2
            by_cases q11_4 : x2 = (4 : Int32)
            · have h := h.1 q11_4
              refine lv_tableIn (off := 76) (tgt := 87) hx hb dX6_about_11 (by rw [q11_4]; decide) (by rw [q11_4]; decide) (by rw [q11_4]; decide) (by decide) ?_
              refine lv_aload_n hx hb dX6_about_87 rfl (lv_at hl 0 rfl) ?_
              refine zget (v := .ref (G.1 27)) hF hSt hH 21 (by decide) rfl (zE_21 _ _ _) (C := RX6) (T := TX6) (N := 31) rfl znX6_about_X6 9 (by decide) (List.mem_of_getElem? (i := 4) rfl) rfl dX6_about_88 ?_
              refine lv_iload_n hx hb dX6_about_91 rfl (lv_at hl 1 rfl) ?_
              obtain ⟨q92, h⟩ := h
              refine zzald hF hSt hH 27 (by decide) rfl (zE_27 _ _ _) q92 dX6_about_92 ?_
              refine lv_if_eq (tgt := 100) hx hb dX6_about_93 (by decide) (fun q93 => ?_) (fun q93 => ?_)
              · have h := h.1 q93
                refine lv_iconst (v := (0 : Int32)) hx hb dX6_about_100 (by decide) ?_
                exact wX6_about_b101 hF hSt hret (0 : Int32) H locs ls hH (lv_sub hl [] rfl) h
              · have h := h.2 q93
                refine lv_iconst (v := (1 : Int32)) hx hb dX6_about_96 (by decide) ?_
                refine lv_goto (tgt := 101) hx hb dX6_about_97 (by decide) ?_
                exact wX6_about_b101 hF hSt hret (1 : Int32) H locs ls hH (lv_sub hl [] rfl) h
            · have h := h.2
              by_cases q11_5 : x2 = (5 : Int32)
              · have h := h.1 q11_5
                refine lv_tableIn (off := 91) (tgt := 102) hx hb dX6_about_11 (by rw [q11_5]; decide) (by rw [q11_5]; decide) (by rw [q11_5]; decide) (by decide) ?_
                refine lv_aload_n hx hb dX6_about_102 rfl (lv_at hl 0 rfl) ?_
                refine zget (v := .ref (G.1 28)) hF hSt hH 21 (by decide) rfl (zE_21 _ _ _) (C := RX6) (T := TX6) (N := 31) rfl znX6_about_X6 10 (by decide) (List.mem_of_getElem? (i := 5) rfl) rfl dX6_about_103 ?_
                refine lv_iload_n hx hb dX6_about_106 rfl (lv_at hl 1 rfl) ?_
                obtain ⟨q107, h⟩ := h
                refine zlald hF hSt hH 28 (by decide) rfl (zE_28 _ _ _) q107 dX6_about_107 ?_
                refine lv_lconst (v := (0 : Int64)) hx hb dX6_about_108 (by decide) ?_
                refine W.lcmp hx hb dX6_about_109 ?_
                refine lv_if_eq (tgt := 117) hx hb dX6_about_110 (by decide) (fun q110 => ?_) (fun q110 => ?_)
                · have h := h.1 q110
                  refine lv_iconst (v := (0 : Int32)) hx hb dX6_about_117 (by decide) ?_
                  exact wX6_about_b118 hF hSt hret (0 : Int32) H locs ls hH (lv_sub hl [] rfl) h
                · have h := h.2 q110
                  refine lv_iconst (v := (1 : Int32)) hx hb dX6_about_113 (by decide) ?_
                  refine lv_goto (tgt := 118) hx hb dX6_about_114 (by decide) ?_
                  exact wX6_about_b118 hF hSt hret (1 : Int32) H locs ls hH (lv_sub hl [] rfl) h
              · have h := h.2
                by_cases q11_6 : x2 = (6 : Int32)
                · have h := h.1 q11_6
                  refine lv_tableIn (off := 108) (tgt := 119) hx hb dX6_about_11 (by rw [q11_6]; decide) (by rw [q11_6]; decide) (by rw [q11_6]; decide) (by decide) ?_
                  refine lv_aload_n hx hb dX6_about_119 rfl (lv_at hl 0 rfl) ?_
                  refine lv_iload_n hx hb dX6_about_120 rfl (lv_at hl 1 rfl) ?_
                  refine zcalliP hH (va_runV (As := [.int x1]) (rest := []) hF (kX6_isPassing l G M O x1 _ h) (cwV 1 hts gX6_about_X6_isPassing rfl rfl rfl ⟨rfl, zdX6_isPassing⟩ ⟨Nat.le_of_ble_eq_true rfl, Nat.le_of_ble_eq_true rfl⟩) (zpreV hSt hH 21 (by decide) rfl (zE_21 _ _ _) (q := (RX6, TX6, 31)) rfl [.int x1]) rfl rfl hl.1 rfl (lv_room (Nat.le_of_ble_eq_true rfl)) dX6_about_121 ⟨Nat.zero_le _, Nat.zero_le _⟩) (fun r121 H locs h hH => ?_)
                  refine lv_if_eq (tgt := 131) hx hb dX6_about_124 (by decide) (fun q124 => ?_) (fun q124 => ?_)
                  · have h := h.1 q124
                    refine lv_iconst (v := (0 : Int32)) hx hb dX6_about_131 (by decide) ?_
                    exact wX6_about_b132 hF hSt hret (0 : Int32) H locs ls hH (lv_sub hl [] rfl) h
                  · have h := h.2 q124
                    refine lv_iconst (v := (1 : Int32)) hx hb dX6_about_127 (by decide) ?_
                    refine lv_goto (tgt := 132) hx hb dX6_about_128 (by decide) ?_
                    exact wX6_about_b132 hF hSt hret (1 : Int32) H locs ls hH (lv_sub hl [] rfl) h
                · have h := h.2
                  have h := h q11_0 q11_1 q11_2 q11_3 q11_4 q11_5 q11_6
                  refine lv_tableOut (tgt := 133) hx hb dX6_about_11 (by have n0 := lv_neT q11_0 (a := 0) (by decide); have n1 := lv_neT q11_1 (a := 1) (by decide); have n2 := lv_neT q11_2 (a := 2) (by decide); have n3 := lv_neT q11_3 (a := 3) (by decide); have n4 := lv_neT q11_4 (a := 4) (by decide); have n5 := lv_neT q11_5 (a := 5) (by decide); have n6 := lv_neT q11_6 (a := 6) (by decide); omega) (by decide) ?_
                  refine lv_iconst (v := (-1 : Int32)) hx hb dX6_about_133 (by decide) ?_
                  exact hret _ _ _ _ _ _ dX6_about_134 ⟨rfl, h⟩ hH
  · have h := h.2 q5
    refine lv_iconst (v := (-1 : Int32)) hx hb dX6_about_8 (by decide) ?_
    exact hret _ _ _ _ _ _ dX6_about_9 ⟨rfl, h⟩ hH
set_option maxRecDepth 100000 in
theorem kX6_about (l : Launch) (G : zG) (M O : zM) (x1 : Int32) (x2 : Int32) (post : Int32 → Prop) (h : pX6_about M x1 x2 post) : Met l yX6_about wsX6_about ({ frames := 3, cells := 0, slots := 0, locals := 67 } : Room) (zPc G false M O [.ref (G.1 21), .int x1, .int x2]) (va_Qi (fun r M1 => M1 = M ∧ post r) (zB G false O) (zAA G)) 0 0 (zAA G) :=
  zmet_i (by decide) rfl (Nat.le_of_ble_eq_true rfl) (fun hF hSt hret H locs ls hH hl => wX6_about hF hSt hret x1 x2 H locs ls hH hl h)
end
theorem zdX6_product : yX6_product.cls ≠ "java/lang/invoke/MethodHandle" ∧ yX6_product.cls ≠ "java/lang/invoke/VarHandle" ∧ (parseMethodDescriptor yX6_product.desc).map (fun d => d.parameters.length) = some 2 := by decide +kernel
-- MixingRelaysModel product(II)I
section
variable {p : Program} {l : Launch} {e : Env} {s : State} {m : MethodId} {args : Array Value} {below : List Frame} {meth : Method} {c : Code} {Q : State → Prop} {G : zG} {O : zM}
def pX6_product_b41 (post : Int32 → Prop) (ag7 : Int32 → Int32 → Int32 → Prop) (x2 : Int32) (x3 : Int32) (x4 : Int32) : Prop :=
  ¬ ((2 : Int32) = 0) ∧ ag7 x2 x3 (x4 / (2 : Int32))
set_option maxHeartbeats 4000000 in
set_option maxRecDepth 100000 in
theorem wX6_product_b41 {M : zM} {post : Int32 → Prop} {ag7 : Int32 → Int32 → Int32 → Prop} (hF : CallFix p m c cX6_product 5 s args wsX6_product RX6) (hSt : zSt G s) (hret : zRi p l e ({ frames := 0, cells := 0, slots := 0, locals := 0 } : Room) s m args below meth c Q cX6_product G false O (fun r M1 => M1 = M ∧ post r)) (hag7 : ∀ (x2 : Int32) (x3 : Int32) (x4 : Int32) (H : Heap) (locs : List Loc) (ls : Array Slot), ag7 x2 x3 x4 → zH G false s H locs M O → lv_has ls 5 [(2, .int x2), (3, .int x3), (4, .int x4)] → W p l e ({ frames := 0, cells := 0, slots := 0, locals := 0 } : Room) s m args below meth c H locs 0 0 Q (F0 m 7 ls [])) (x2 : Int32) (x3 : Int32) (x4 : Int32) (H : Heap) (locs : List Loc) (ls : Array Slot) (hH : zH G false s H locs M O) (hl : lv_has ls 5 [(2, .int x2), (3, .int x3), (4, .int x4)]) (h : pX6_product_b41 post ag7 x2 x3 x4) : W p l e ({ frames := 0, cells := 0, slots := 0, locals := 0 } : Room) s m args below meth c H locs 0 0 Q (F0 m 41 ls []) := by
  obtain ⟨hx, hb, hml, hown, hts⟩ := id hF
  unfold pX6_product_b41 at h
  refine lv_iload hx hb dX6_product_41 (lv_at hl 2 rfl) ?_
  refine lv_iconst (v := (2 : Int32)) hx hb dX6_product_43 (by decide) ?_
  obtain ⟨q44, h⟩ := h
  refine lv_idiv hx hb dX6_product_44 q44 ?_
  refine lv_istore (lv' := [(4, .int (x4 / (2 : Int32))), (2, .int x2), (3, .int x3)]) hx hb dX6_product_45 hl (by decide) rfl (fun ls hl => ?_)
  refine lv_goto (tgt := 7) hx hb dX6_product_47 (by decide) ?_
  exact hag7 x2 x3 (x4 / (2 : Int32)) H locs ls h hH (lv_sub hl [1, 2, 0] rfl)
def pX6_product_b24 (post : Int32 → Prop) (ag7 : Int32 → Int32 → Int32 → Prop) (x2 : Int32) (x3 : Int32) (x4 : Int32) : Prop :=
  ((x3 * (2 : Int32)) ≤ (255 : Int32) → pX6_product_b41 post ag7 x2 (x3 * (2 : Int32)) x4) ∧ (¬ ((x3 * (2 : Int32)) ≤ (255 : Int32)) → pX6_product_b41 post ag7 x2 ((x3 * (2 : Int32)) ^^^ (283 : Int32)) x4)
set_option maxHeartbeats 4000000 in
set_option maxRecDepth 100000 in
theorem wX6_product_b24 {M : zM} {post : Int32 → Prop} {ag7 : Int32 → Int32 → Int32 → Prop} (hF : CallFix p m c cX6_product 5 s args wsX6_product RX6) (hSt : zSt G s) (hret : zRi p l e ({ frames := 0, cells := 0, slots := 0, locals := 0 } : Room) s m args below meth c Q cX6_product G false O (fun r M1 => M1 = M ∧ post r)) (hag7 : ∀ (x2 : Int32) (x3 : Int32) (x4 : Int32) (H : Heap) (locs : List Loc) (ls : Array Slot), ag7 x2 x3 x4 → zH G false s H locs M O → lv_has ls 5 [(2, .int x2), (3, .int x3), (4, .int x4)] → W p l e ({ frames := 0, cells := 0, slots := 0, locals := 0 } : Room) s m args below meth c H locs 0 0 Q (F0 m 7 ls [])) (x2 : Int32) (x3 : Int32) (x4 : Int32) (H : Heap) (locs : List Loc) (ls : Array Slot) (hH : zH G false s H locs M O) (hl : lv_has ls 5 [(2, .int x2), (3, .int x3), (4, .int x4)]) (h : pX6_product_b24 post ag7 x2 x3 x4) : W p l e ({ frames := 0, cells := 0, slots := 0, locals := 0 } : Room) s m args below meth c H locs 0 0 Q (F0 m 24 ls []) := by
  obtain ⟨hx, hb, hml, hown, hts⟩ := id hF
  unfold pX6_product_b24 at h
  refine lv_iload_n hx hb dX6_product_24 rfl (lv_at hl 1 rfl) ?_
  refine lv_iconst (v := (2 : Int32)) hx hb dX6_product_25 (by decide) ?_
  refine lv_imul hx hb dX6_product_26 ?_
  refine lv_istore_n (lv' := [(3, .int (x3 * (2 : Int32))), (2, .int x2), (4, .int x4)]) hx hb dX6_product_27 rfl hl (by decide) rfl (fun ls hl => ?_)
  refine lv_iload_n hx hb dX6_product_28 rfl (lv_at hl 0 rfl) ?_
  refine lv_sipush (v := (255 : Int32)) hx hb dX6_product_29 (by decide) ?_
  refine lv_icmp_le (tgt := 41) hx hb dX6_product_32 (by decide) (fun q32 => ?_) (fun q32 => ?_)
  · have h := h.1 q32
    exact wX6_product_b41 hF hSt hret hag7 x2 (x3 * (2 : Int32)) x4 H locs ls hH (lv_sub hl [1, 0, 2] rfl) h
  · have h := h.2 q32
    refine lv_iload_n hx hb dX6_product_35 rfl (lv_at hl 0 rfl) ?_
    refine lv_sipush (v := (283 : Int32)) hx hb dX6_product_36 (by decide) ?_
    refine lv_ixor hx hb dX6_product_39 ?_
    refine lv_istore_n (lv' := [(3, .int ((x3 * (2 : Int32)) ^^^ (283 : Int32))), (2, .int x2), (4, .int x4)]) hx hb dX6_product_40 rfl hl (by decide) rfl (fun ls hl => ?_)
    exact wX6_product_b41 hF hSt hret hag7 x2 ((x3 * (2 : Int32)) ^^^ (283 : Int32)) x4 H locs ls hH (lv_sub hl [1, 0, 2] rfl) h
def pX6_product_b7 (post : Int32 → Prop) (ag7 : Int32 → Int32 → Int32 → Prop) (x2 : Int32) (x3 : Int32) (x4 : Int32) : Prop :=
  (x4 ≤ 0 → post x2) ∧ (¬ (x4 ≤ 0) → ¬ ((2 : Int32) = 0) ∧ (¬ ((x4 - x4 / (2 : Int32) * (2 : Int32)) = (1 : Int32)) → pX6_product_b24 post ag7 x2 x3 x4) ∧ ((x4 - x4 / (2 : Int32) * (2 : Int32)) = (1 : Int32) → pX6_product_b24 post ag7 (x2 ^^^ x3) x3 x4))
set_option maxHeartbeats 4000000 in
set_option maxRecDepth 100000 in
theorem wX6_product_b7 {M : zM} {post : Int32 → Prop} {ag7 : Int32 → Int32 → Int32 → Prop} (hF : CallFix p m c cX6_product 5 s args wsX6_product RX6) (hSt : zSt G s) (hret : zRi p l e ({ frames := 0, cells := 0, slots := 0, locals := 0 } : Room) s m args below meth c Q cX6_product G false O (fun r M1 => M1 = M ∧ post r)) (hag7 : ∀ (x2 : Int32) (x3 : Int32) (x4 : Int32) (H : Heap) (locs : List Loc) (ls : Array Slot), ag7 x2 x3 x4 → zH G false s H locs M O → lv_has ls 5 [(2, .int x2), (3, .int x3), (4, .int x4)] → W p l e ({ frames := 0, cells := 0, slots := 0, locals := 0 } : Room) s m args below meth c H locs 0 0 Q (F0 m 7 ls [])) (x2 : Int32) (x3 : Int32) (x4 : Int32) (H : Heap) (locs : List Loc) (ls : Array Slot) (hH : zH G false s H locs M O) (hl : lv_has ls 5 [(2, .int x2), (3, .int x3), (4, .int x4)]) (h : pX6_product_b7 post ag7 x2 x3 x4) : W p l e ({ frames := 0, cells := 0, slots := 0, locals := 0 } : Room) s m args below meth c H locs 0 0 Q (F0 m 7 ls []) := by
  obtain ⟨hx, hb, hml, hown, hts⟩ := id hF
  unfold pX6_product_b7 at h
  refine lv_iload hx hb dX6_product_7 (lv_at hl 2 rfl) ?_
  refine lv_if_le (tgt := 50) hx hb dX6_product_9 (by decide) (fun q9 => ?_) (fun q9 => ?_)
  · have h := h.1 q9
    refine lv_iload_n hx hb dX6_product_50 rfl (lv_at hl 0 rfl) ?_
    exact hret _ _ _ _ _ _ dX6_product_51 ⟨rfl, h⟩ hH
  · have h := h.2 q9
    refine lv_iload hx hb dX6_product_12 (lv_at hl 2 rfl) ?_
    refine lv_iconst (v := (2 : Int32)) hx hb dX6_product_14 (by decide) ?_
    obtain ⟨q15, h⟩ := h
    refine lv_irem hx hb dX6_product_15 q15 ?_
    refine lv_iconst (v := (1 : Int32)) hx hb dX6_product_16 (by decide) ?_
    refine lv_icmp_ne (tgt := 24) hx hb dX6_product_17 (by decide) (fun q17 => ?_) (fun q17 => ?_)
    · have h := h.1 q17
      exact wX6_product_b24 hF hSt hret hag7 x2 x3 x4 H locs ls hH (lv_sub hl [0, 1, 2] rfl) h
    · have h := h.2 q17
      refine lv_iload_n hx hb dX6_product_20 rfl (lv_at hl 0 rfl) ?_
      refine lv_iload_n hx hb dX6_product_21 rfl (lv_at hl 1 rfl) ?_
      refine lv_ixor hx hb dX6_product_22 ?_
      refine lv_istore_n (lv' := [(2, .int (x2 ^^^ x3)), (3, .int x3), (4, .int x4)]) hx hb dX6_product_23 rfl hl (by decide) rfl (fun ls hl => ?_)
      exact wX6_product_b24 hF hSt hret hag7 (x2 ^^^ x3) x3 x4 H locs ls hH (lv_sub hl [0, 1, 2] rfl) h
def pX6_product_L7 (post : Int32 → Prop) (x2 : Int32) (x3 : Int32) (x4 : Int32) : Prop :=
  ∃ I : Nat → Int32 → Int32 → Int32 → Prop, (∃ n, I n x2 x3 x4) ∧ ∀ n x2 x3 x4, I n x2 x3 x4 → pX6_product_b7 post (fun x2 x3 x4 => ∃ k, k < n ∧ I k x2 x3 x4) x2 x3 x4
set_option maxHeartbeats 4000000 in
theorem wX6_product_L7 {M : zM} {post : Int32 → Prop}  (hF : CallFix p m c cX6_product 5 s args wsX6_product RX6) (hSt : zSt G s) (hret : zRi p l e ({ frames := 0, cells := 0, slots := 0, locals := 0 } : Room) s m args below meth c Q cX6_product G false O (fun r M1 => M1 = M ∧ post r)) (x2 : Int32) (x3 : Int32) (x4 : Int32) (H : Heap) (locs : List Loc) (ls : Array Slot) (hH : zH G false s H locs M O) (hl : lv_has ls 5 [(2, .int x2), (3, .int x3), (4, .int x4)]) (h : pX6_product_L7 post x2 x3 x4) : W p l e ({ frames := 0, cells := 0, slots := 0, locals := 0 } : Room) s m args below meth c H locs 0 0 Q (F0 m 7 ls []) := by
  obtain ⟨I, ⟨n, hI⟩, hs⟩ := h
  have key : ∀ (n : Nat) (x2 : Int32) (x3 : Int32) (x4 : Int32) (H : Heap) (locs : List Loc) (ls : Array Slot), I n x2 x3 x4 → zH G false s H locs M O → lv_has ls 5 [(2, .int x2), (3, .int x3), (4, .int x4)] → W p l e ({ frames := 0, cells := 0, slots := 0, locals := 0 } : Room) s m args below meth c H locs 0 0 Q (F0 m 7 ls []) := by
    intro n
    induction n using Nat.strongRecOn with
    | _ n ih =>
      intro x2 x3 x4 H locs ls hI hH hl
      exact wX6_product_b7 hF hSt hret (fun x2 x3 x4 H locs ls h hH hl => by obtain ⟨k, hk, hI⟩ := h; exact ih k hk x2 x3 x4 H locs ls hI hH hl) x2 x3 x4 H locs ls hH hl (hs n x2 x3 x4 hI)
  exact key n x2 x3 x4 H locs ls hI hH hl
def pX6_product (x0 : Int32) (x1 : Int32) (post : Int32 → Prop) : Prop :=
  pX6_product_L7 post (0 : Int32) x0 x1
set_option maxHeartbeats 4000000 in
set_option maxRecDepth 100000 in
theorem wX6_product {M : zM} {post : Int32 → Prop} (hF : CallFix p m c cX6_product 5 s args wsX6_product RX6) (hSt : zSt G s) (hret : zRi p l e ({ frames := 0, cells := 0, slots := 0, locals := 0 } : Room) s m args below meth c Q cX6_product G false O (fun r M1 => M1 = M ∧ post r)) (x0 : Int32) (x1 : Int32) (H : Heap) (locs : List Loc) (ls : Array Slot) (hH : zH G false s H locs M O) (hl : lv_has ls 5 [(0, .int x0), (1, .int x1)]) (h : pX6_product x0 x1 post) : W p l e ({ frames := 0, cells := 0, slots := 0, locals := 0 } : Room) s m args below meth c H locs 0 0 Q (F0 m 0 ls []) := by
  obtain ⟨hx, hb, hml, hown, hts⟩ := id hF
  unfold pX6_product at h
  refine lv_iconst (v := (0 : Int32)) hx hb dX6_product_0 (by decide) ?_
  refine lv_istore_n (lv' := [(2, .int (0 : Int32)), (0, .int x0), (1, .int x1)]) hx hb dX6_product_1 rfl hl (by decide) rfl (fun ls hl => ?_)
  refine lv_iload_n hx hb dX6_product_2 rfl (lv_at hl 1 rfl) ?_
  refine lv_istore_n (lv' := [(3, .int x0), (2, .int (0 : Int32)), (0, .int x0), (1, .int x1)]) hx hb dX6_product_3 rfl hl (by decide) rfl (fun ls hl => ?_)
  refine lv_iload_n hx hb dX6_product_4 rfl (lv_at hl 3 rfl) ?_
  refine lv_istore (lv' := [(4, .int x1), (3, .int x0), (2, .int (0 : Int32)), (0, .int x0), (1, .int x1)]) hx hb dX6_product_5 hl (by decide) rfl (fun ls hl => ?_)
  exact wX6_product_L7 hF hSt hret (0 : Int32) x0 x1 H locs ls hH (lv_sub hl [2, 1, 0] rfl) h
set_option maxRecDepth 100000 in
theorem kX6_product (l : Launch) (G : zG) (M O : zM) (x0 : Int32) (x1 : Int32) (post : Int32 → Prop) (h : pX6_product x0 x1 post) : Met l yX6_product wsX6_product ({ frames := 0, cells := 0, slots := 0, locals := 0 } : Room) (zPc G false M O [.int x0, .int x1]) (va_Qi (fun r M1 => M1 = M ∧ post r) (zB G false O) (zAA G)) 0 0 (zAA G) :=
  zmet_i (by decide) rfl (Nat.le_of_ble_eq_true rfl) (fun hF hSt hret H locs ls hH hl => wX6_product hF hSt hret x0 x1 H locs ls hH hl h)
end
theorem zdX6_times : yX6_times.cls ≠ "java/lang/invoke/MethodHandle" ∧ yX6_times.cls ≠ "java/lang/invoke/VarHandle" ∧ (parseMethodDescriptor yX6_times.desc).map (fun d => d.parameters.length) = some 2 := by decide +kernel
-- MixingRelaysModel times(II)I
section
variable {p : Program} {l : Launch} {e : Env} {s : State} {m : MethodId} {args : Array Value} {below : List Frame} {meth : Method} {c : Code} {Q : State → Prop} {G : zG} {O : zM}
def pX6_times_b32 (post : Int32 → Prop) (t0 : Int32) : Prop :=
  post t0
set_option maxHeartbeats 4000000 in
set_option maxRecDepth 100000 in
theorem wX6_times_b32 {M : zM} {post : Int32 → Prop}  (hF : CallFix p m c cX6_times 3 s args wsX6_times RX6) (hSt : zSt G s) (hret : zRi p l e ({ frames := 1, cells := 0, slots := 0, locals := 24 } : Room) s m args below meth c Q cX6_times G false O (fun r M1 => M1 = M ∧ post r)) (t0 : Int32) (H : Heap) (locs : List Loc) (ls : Array Slot) (hH : zH G false s H locs M O) (hl : lv_has ls 3 []) (h : pX6_times_b32 post t0) : W p l e ({ frames := 1, cells := 0, slots := 0, locals := 24 } : Room) s m args below meth c H locs 0 0 Q (F0 m 32 ls [.int t0]) := by
  obtain ⟨hx, hb, hml, hown, hts⟩ := id hF
  unfold pX6_times_b32 at h
  exact hret _ _ _ _ _ _ dX6_times_32 ⟨rfl, h⟩ hH
def pX6_times_b30 (post : Int32 → Prop) : Prop :=
  pX6_times_b32 post (-2 : Int32)
set_option maxHeartbeats 4000000 in
set_option maxRecDepth 100000 in
theorem wX6_times_b30 {M : zM} {post : Int32 → Prop}  (hF : CallFix p m c cX6_times 3 s args wsX6_times RX6) (hSt : zSt G s) (hret : zRi p l e ({ frames := 1, cells := 0, slots := 0, locals := 24 } : Room) s m args below meth c Q cX6_times G false O (fun r M1 => M1 = M ∧ post r))  (H : Heap) (locs : List Loc) (ls : Array Slot) (hH : zH G false s H locs M O) (hl : lv_has ls 3 []) (h : pX6_times_b30 post) : W p l e ({ frames := 1, cells := 0, slots := 0, locals := 24 } : Room) s m args below meth c H locs 0 0 Q (F0 m 30 ls []) := by
  obtain ⟨hx, hb, hml, hown, hts⟩ := id hF
  unfold pX6_times_b30 at h
  refine lv_bipush (v := (-2 : Int32)) hx hb dX6_times_30 (by decide) ?_
  exact wX6_times_b32 hF hSt hret (-2 : Int32) H locs ls hH (lv_sub hl [] rfl) h
def pX6_times (x1 : Int32) (x2 : Int32) (post : Int32 → Prop) : Prop :=
  pX6_in x1 (0 : Int32) (255 : Int32) (fun r5 => (r5 = 0 → pX6_times_b30 post) ∧ (¬ (r5 = 0) → pX6_in x2 (0 : Int32) (255 : Int32) (fun r16 => (r16 = 0 → pX6_times_b30 post) ∧ (¬ (r16 = 0) → pX6_product x1 x2 (fun r24 => pX6_times_b32 post r24)))))
set_option maxHeartbeats 4000000 in
set_option maxRecDepth 100000 in
theorem wX6_times {M : zM} {post : Int32 → Prop} (hF : CallFix p m c cX6_times 3 s args wsX6_times RX6) (hSt : zSt G s) (hret : zRi p l e ({ frames := 1, cells := 0, slots := 0, locals := 24 } : Room) s m args below meth c Q cX6_times G false O (fun r M1 => M1 = M ∧ post r)) (x1 : Int32) (x2 : Int32) (H : Heap) (locs : List Loc) (ls : Array Slot) (hH : zH G false s H locs M O) (hl : lv_has ls 3 [(0, .ref (G.1 21)), (1, .int x1), (2, .int x2)]) (h : pX6_times x1 x2 post) : W p l e ({ frames := 1, cells := 0, slots := 0, locals := 24 } : Room) s m args below meth c H locs 0 0 Q (F0 m 0 ls []) := by
  obtain ⟨hx, hb, hml, hown, hts⟩ := id hF
  unfold pX6_times at h
  refine lv_iload_n hx hb dX6_times_0 rfl (lv_at hl 1 rfl) ?_
  refine lv_iconst (v := (0 : Int32)) hx hb dX6_times_1 (by decide) ?_
  refine lv_sipush (v := (255 : Int32)) hx hb dX6_times_2 (by decide) ?_
  refine zcalliP hH (va_runS (As := [.int x1, .int (0 : Int32), .int (255 : Int32)]) (rest := []) hF (kX6_in l G M O x1 (0 : Int32) (255 : Int32) _ h) (va_cwS 3 hts gX6_times_X6_in rfl rfl rfl zdX6_in ⟨Nat.le_of_ble_eq_true rfl, Nat.le_of_ble_eq_true rfl⟩) (zpreS hSt hH [.int x1, .int (0 : Int32), .int (255 : Int32)]) rfl rfl hl.1 rfl (lv_room (Nat.le_of_ble_eq_true rfl)) dX6_times_5 ⟨Nat.zero_le _, Nat.zero_le _⟩) (fun r5 H locs h hH => ?_)
  refine lv_if_eq (tgt := 30) hx hb dX6_times_8 (by decide) (fun q8 => ?_) (fun q8 => ?_)
  · have h := h.1 q8
    exact wX6_times_b30 hF hSt hret  H locs ls hH (lv_sub hl [] rfl) h
  · have h := h.2 q8
    refine lv_iload_n hx hb dX6_times_11 rfl (lv_at hl 2 rfl) ?_
    refine lv_iconst (v := (0 : Int32)) hx hb dX6_times_12 (by decide) ?_
    refine lv_sipush (v := (255 : Int32)) hx hb dX6_times_13 (by decide) ?_
    refine zcalliP hH (va_runS (As := [.int x2, .int (0 : Int32), .int (255 : Int32)]) (rest := []) hF (kX6_in l G M O x2 (0 : Int32) (255 : Int32) _ h) (va_cwS 3 hts gX6_times_X6_in rfl rfl rfl zdX6_in ⟨Nat.le_of_ble_eq_true rfl, Nat.le_of_ble_eq_true rfl⟩) (zpreS hSt hH [.int x2, .int (0 : Int32), .int (255 : Int32)]) rfl rfl hl.1 rfl (lv_room (Nat.le_of_ble_eq_true rfl)) dX6_times_16 ⟨Nat.zero_le _, Nat.zero_le _⟩) (fun r16 H locs h hH => ?_)
    refine lv_if_eq (tgt := 30) hx hb dX6_times_19 (by decide) (fun q19 => ?_) (fun q19 => ?_)
    · have h := h.1 q19
      exact wX6_times_b30 hF hSt hret  H locs ls hH (lv_sub hl [] rfl) h
    · have h := h.2 q19
      refine lv_iload_n hx hb dX6_times_22 rfl (lv_at hl 1 rfl) ?_
      refine lv_iload_n hx hb dX6_times_23 rfl (lv_at hl 2 rfl) ?_
      refine zcalliP hH (va_runS (As := [.int x1, .int x2]) (rest := []) hF (kX6_product l G M O x1 x2 _ h) (va_cwS 2 hts gX6_times_X6_product rfl rfl rfl zdX6_product ⟨Nat.le_of_ble_eq_true rfl, Nat.le_of_ble_eq_true rfl⟩) (zpreS hSt hH [.int x1, .int x2]) rfl rfl hl.1 rfl (lv_room (Nat.le_of_ble_eq_true rfl)) dX6_times_24 ⟨Nat.zero_le _, Nat.zero_le _⟩) (fun r24 H locs h hH => ?_)
      refine lv_goto (tgt := 32) hx hb dX6_times_27 (by decide) ?_
      exact wX6_times_b32 hF hSt hret r24 H locs ls hH (lv_sub hl [] rfl) h
set_option maxRecDepth 100000 in
theorem kX6_times (l : Launch) (G : zG) (M O : zM) (x1 : Int32) (x2 : Int32) (post : Int32 → Prop) (h : pX6_times x1 x2 post) : Met l yX6_times wsX6_times ({ frames := 1, cells := 0, slots := 0, locals := 24 } : Room) (zPc G false M O [.ref (G.1 21), .int x1, .int x2]) (va_Qi (fun r M1 => M1 = M ∧ post r) (zB G false O) (zAA G)) 0 0 (zAA G) :=
  zmet_i (by decide) rfl (Nat.le_of_ble_eq_true rfl) (fun hF hSt hret H locs ls hH hl => wX6_times hF hSt hret x1 x2 H locs ls hH hl h)
end
theorem zdX6_inverseOf : yX6_inverseOf.cls ≠ "java/lang/invoke/MethodHandle" ∧ yX6_inverseOf.cls ≠ "java/lang/invoke/VarHandle" ∧ (parseMethodDescriptor yX6_inverseOf.desc).map (fun d => d.parameters.length) = some 1 := by decide +kernel
-- MixingRelaysModel inverseOf(I)I
section
variable {p : Program} {l : Launch} {e : Env} {s : State} {m : MethodId} {args : Array Value} {below : List Frame} {meth : Method} {c : Code} {Q : State → Prop} {G : zG} {O : zM}
def pX6_inverseOf_b2 (post : Int32 → Prop) (ag2 : Int32 → Int32 → Prop) (x0 : Int32) (x1 : Int32) : Prop :=
  pX6_product x0 x1 (fun r4 => (r4 = (1 : Int32) → post x1) ∧ (¬ (r4 = (1 : Int32)) → ag2 x0 (x1 + (1 : Int32))))
set_option maxHeartbeats 4000000 in
set_option maxRecDepth 100000 in
theorem wX6_inverseOf_b2 {M : zM} {post : Int32 → Prop} {ag2 : Int32 → Int32 → Prop} (hF : CallFix p m c cX6_inverseOf 2 s args wsX6_inverseOf RX6) (hSt : zSt G s) (hret : zRi p l e ({ frames := 1, cells := 0, slots := 0, locals := 24 } : Room) s m args below meth c Q cX6_inverseOf G false O (fun r M1 => M1 = M ∧ post r)) (hag2 : ∀ (x0 : Int32) (x1 : Int32) (H : Heap) (locs : List Loc) (ls : Array Slot), ag2 x0 x1 → zH G false s H locs M O → lv_has ls 2 [(0, .int x0), (1, .int x1)] → W p l e ({ frames := 1, cells := 0, slots := 0, locals := 24 } : Room) s m args below meth c H locs 0 0 Q (F0 m 2 ls [])) (x0 : Int32) (x1 : Int32) (H : Heap) (locs : List Loc) (ls : Array Slot) (hH : zH G false s H locs M O) (hl : lv_has ls 2 [(0, .int x0), (1, .int x1)]) (h : pX6_inverseOf_b2 post ag2 x0 x1) : W p l e ({ frames := 1, cells := 0, slots := 0, locals := 24 } : Room) s m args below meth c H locs 0 0 Q (F0 m 2 ls []) := by
  obtain ⟨hx, hb, hml, hown, hts⟩ := id hF
  unfold pX6_inverseOf_b2 at h
  refine lv_iload_n hx hb dX6_inverseOf_2 rfl (lv_at hl 0 rfl) ?_
  refine lv_iload_n hx hb dX6_inverseOf_3 rfl (lv_at hl 1 rfl) ?_
  refine zcalliP hH (va_runS (As := [.int x0, .int x1]) (rest := []) hF (kX6_product l G M O x0 x1 _ h) (va_cwS 2 hts gX6_inverseOf_X6_product rfl rfl rfl zdX6_product ⟨Nat.le_of_ble_eq_true rfl, Nat.le_of_ble_eq_true rfl⟩) (zpreS hSt hH [.int x0, .int x1]) rfl rfl hl.1 rfl (lv_room (Nat.le_of_ble_eq_true rfl)) dX6_inverseOf_4 ⟨Nat.zero_le _, Nat.zero_le _⟩) (fun r4 H locs h hH => ?_)
  refine lv_iconst (v := (1 : Int32)) hx hb dX6_inverseOf_7 (by decide) ?_
  refine lv_icmp_eq (tgt := 17) hx hb dX6_inverseOf_8 (by decide) (fun q8 => ?_) (fun q8 => ?_)
  · have h := h.1 q8
    refine lv_iload_n hx hb dX6_inverseOf_17 rfl (lv_at hl 1 rfl) ?_
    exact hret _ _ _ _ _ _ dX6_inverseOf_18 ⟨rfl, h⟩ hH
  · have h := h.2 q8
    refine lv_iinc (v := (x1 + (1 : Int32))) (lv' := [(1, .int (x1 + (1 : Int32))), (0, .int x0)]) hx hb dX6_inverseOf_11 hl (k := 1) rfl rfl (by decide) rfl (fun ls hl => ?_)
    refine lv_goto (tgt := 2) hx hb dX6_inverseOf_14 (by decide) ?_
    exact hag2 x0 (x1 + (1 : Int32)) H locs ls h hH (lv_sub hl [1, 0] rfl)
def pX6_inverseOf_L2 (post : Int32 → Prop) (x0 : Int32) (x1 : Int32) : Prop :=
  ∃ I : Nat → Int32 → Int32 → Prop, (∃ n, I n x0 x1) ∧ ∀ n x0 x1, I n x0 x1 → pX6_inverseOf_b2 post (fun x0 x1 => ∃ k, k < n ∧ I k x0 x1) x0 x1
set_option maxHeartbeats 4000000 in
theorem wX6_inverseOf_L2 {M : zM} {post : Int32 → Prop}  (hF : CallFix p m c cX6_inverseOf 2 s args wsX6_inverseOf RX6) (hSt : zSt G s) (hret : zRi p l e ({ frames := 1, cells := 0, slots := 0, locals := 24 } : Room) s m args below meth c Q cX6_inverseOf G false O (fun r M1 => M1 = M ∧ post r)) (x0 : Int32) (x1 : Int32) (H : Heap) (locs : List Loc) (ls : Array Slot) (hH : zH G false s H locs M O) (hl : lv_has ls 2 [(0, .int x0), (1, .int x1)]) (h : pX6_inverseOf_L2 post x0 x1) : W p l e ({ frames := 1, cells := 0, slots := 0, locals := 24 } : Room) s m args below meth c H locs 0 0 Q (F0 m 2 ls []) := by
  obtain ⟨I, ⟨n, hI⟩, hs⟩ := h
  have key : ∀ (n : Nat) (x0 : Int32) (x1 : Int32) (H : Heap) (locs : List Loc) (ls : Array Slot), I n x0 x1 → zH G false s H locs M O → lv_has ls 2 [(0, .int x0), (1, .int x1)] → W p l e ({ frames := 1, cells := 0, slots := 0, locals := 24 } : Room) s m args below meth c H locs 0 0 Q (F0 m 2 ls []) := by
    intro n
    induction n using Nat.strongRecOn with
    | _ n ih =>
      intro x0 x1 H locs ls hI hH hl
      exact wX6_inverseOf_b2 hF hSt hret (fun x0 x1 H locs ls h hH hl => by obtain ⟨k, hk, hI⟩ := h; exact ih k hk x0 x1 H locs ls hI hH hl) x0 x1 H locs ls hH hl (hs n x0 x1 hI)
  exact key n x0 x1 H locs ls hI hH hl
def pX6_inverseOf (x0 : Int32) (post : Int32 → Prop) : Prop :=
  pX6_inverseOf_L2 post x0 (1 : Int32)
set_option maxHeartbeats 4000000 in
set_option maxRecDepth 100000 in
theorem wX6_inverseOf {M : zM} {post : Int32 → Prop} (hF : CallFix p m c cX6_inverseOf 2 s args wsX6_inverseOf RX6) (hSt : zSt G s) (hret : zRi p l e ({ frames := 1, cells := 0, slots := 0, locals := 24 } : Room) s m args below meth c Q cX6_inverseOf G false O (fun r M1 => M1 = M ∧ post r)) (x0 : Int32) (H : Heap) (locs : List Loc) (ls : Array Slot) (hH : zH G false s H locs M O) (hl : lv_has ls 2 [(0, .int x0)]) (h : pX6_inverseOf x0 post) : W p l e ({ frames := 1, cells := 0, slots := 0, locals := 24 } : Room) s m args below meth c H locs 0 0 Q (F0 m 0 ls []) := by
  obtain ⟨hx, hb, hml, hown, hts⟩ := id hF
  unfold pX6_inverseOf at h
  refine lv_iconst (v := (1 : Int32)) hx hb dX6_inverseOf_0 (by decide) ?_
  refine lv_istore_n (lv' := [(1, .int (1 : Int32)), (0, .int x0)]) hx hb dX6_inverseOf_1 rfl hl (by decide) rfl (fun ls hl => ?_)
  exact wX6_inverseOf_L2 hF hSt hret x0 (1 : Int32) H locs ls hH (lv_sub hl [1, 0] rfl) h
set_option maxRecDepth 100000 in
theorem kX6_inverseOf (l : Launch) (G : zG) (M O : zM) (x0 : Int32) (post : Int32 → Prop) (h : pX6_inverseOf x0 post) : Met l yX6_inverseOf wsX6_inverseOf ({ frames := 1, cells := 0, slots := 0, locals := 24 } : Room) (zPc G false M O [.int x0]) (va_Qi (fun r M1 => M1 = M ∧ post r) (zB G false O) (zAA G)) 0 0 (zAA G) :=
  zmet_i (by decide) rfl (Nat.le_of_ble_eq_true rfl) (fun hF hSt hret H locs ls hH hl => wX6_inverseOf hF hSt hret x0 H locs ls hH hl h)
end
