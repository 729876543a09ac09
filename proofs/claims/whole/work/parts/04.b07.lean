theorem znX6_goes_X6 : ∀ w ∈ wsX60, w ∈ wsX6_goes := fun _ h => List.mem_cons_of_mem _ (List.mem_append_right _ h)
theorem zdX6_goes : yX6_goes.cls ≠ "java/lang/invoke/MethodHandle" ∧ yX6_goes.cls ≠ "java/lang/invoke/VarHandle" ∧ (parseMethodDescriptor yX6_goes.desc).map (fun d => d.parameters.length) = some 2 := by decide +kernel
-- MixingRelaysModel goes(II)Z
section
variable {p : Program} {l : Launch} {e : Env} {s : State} {m : MethodId} {args : Array Value} {below : List Frame} {meth : Method} {c : Code} {Q : State → Prop} {G : zG} {O : zM}
def pX6_goes_b138 (post : Int32 → zM → Prop) (ag5 : Int32 → Int32 → Int32 → Int32 → zM → Prop) (ag44 : Int32 → Int32 → Int32 → Int32 → Int32 → zM → Prop) (x1 : Int32) (x2 : Int32) (x3 : Int32) (x4 : Int32) (x5 : Int32) (M : zM) : Prop :=
  ag44 x1 x2 x3 x4 (x5 + (1 : Int32)) M
set_option maxHeartbeats 4000000 in
set_option maxRecDepth 100000 in
theorem wX6_goes_b138 {post : Int32 → zM → Prop} {ag5 : Int32 → Int32 → Int32 → Int32 → zM → Prop} {ag44 : Int32 → Int32 → Int32 → Int32 → Int32 → zM → Prop} (hF : CallFix p m c cX6_goes 6 s args wsX6_goes RX6) (hSt : zSt G s) (hret : zRz p l e ({ frames := 3, cells := 0, slots := 0, locals := 73 } : Room) s m args below meth c Q cX6_goes G false O post) (hag5 : ∀ (x1 : Int32) (x2 : Int32) (x3 : Int32) (x4 : Int32) (M : zM) (H : Heap) (locs : List Loc) (ls : Array Slot), ag5 x1 x2 x3 x4 M → zH G false s H locs M O → lv_has ls 6 [(0, .ref (G.1 21)), (1, .int x1), (2, .int x2), (3, .int x3), (4, .int x4)] → W p l e ({ frames := 3, cells := 0, slots := 0, locals := 73 } : Room) s m args below meth c H locs 0 0 Q (F0 m 5 ls [])) (hag44 : ∀ (x1 : Int32) (x2 : Int32) (x3 : Int32) (x4 : Int32) (x5 : Int32) (M : zM) (H : Heap) (locs : List Loc) (ls : Array Slot), ag44 x1 x2 x3 x4 x5 M → zH G false s H locs M O → lv_has ls 6 [(0, .ref (G.1 21)), (1, .int x1), (2, .int x2), (3, .int x3), (4, .int x4), (5, .int x5)] → W p l e ({ frames := 3, cells := 0, slots := 0, locals := 73 } : Room) s m args below meth c H locs 0 0 Q (F0 m 44 ls [])) (x1 : Int32) (x2 : Int32) (x3 : Int32) (x4 : Int32) (x5 : Int32) (M : zM) (H : Heap) (locs : List Loc) (ls : Array Slot) (hH : zH G false s H locs M O) (hl : lv_has ls 6 [(0, .ref (G.1 21)), (1, .int x1), (2, .int x2), (3, .int x3), (4, .int x4), (5, .int x5)]) (h : pX6_goes_b138 post ag5 ag44 x1 x2 x3 x4 x5 M) : W p l e ({ frames := 3, cells := 0, slots := 0, locals := 73 } : Room) s m args below meth c H locs 0 0 Q (F0 m 138 ls []) := by
  obtain ⟨hx, hb, hml, hown, hts⟩ := id hF
  unfold pX6_goes_b138 at h
  refine lv_iinc (v := (x5 + (1 : Int32))) (lv' := [(5, .int (x5 + (1 : Int32))), (0, .ref (G.1 21)), (1, .int x1), (2, .int x2), (3, .int x3), (4, .int x4)]) hx hb dX6_goes_138 hl (k := 5) rfl rfl (by decide) rfl (fun ls hl => ?_)
  refine lv_goto (tgt := 44) hx hb dX6_goes_141 (by decide) ?_
  exact hag44 x1 x2 x3 x4 (x5 + (1 : Int32)) M H locs ls h hH (lv_sub hl [1, 2, 3, 4, 5, 0] rfl)
def pX6_goes_b106 (post : Int32 → zM → Prop) (ag5 : Int32 → Int32 → Int32 → Int32 → zM → Prop) (ag44 : Int32 → Int32 → Int32 → Int32 → Int32 → zM → Prop) (x1 : Int32) (x2 : Int32) (x3 : Int32) (x4 : Int32) (x5 : Int32) (t0 : Int32) (t1 : Int32) (t2 : Int32) (t3 : Int32) (M : zM) : Prop :=
  pX6_product t1 t0 (fun r106 => vp_in t3 25 ∧ pX6_goes_b138 post ag5 ag44 x1 x2 x3 x4 x5 (zsi M 40 t3.toNatClampNeg (t2 ^^^ r106)))
set_option maxHeartbeats 4000000 in
set_option maxRecDepth 100000 in
theorem wX6_goes_b106 {post : Int32 → zM → Prop} {ag5 : Int32 → Int32 → Int32 → Int32 → zM → Prop} {ag44 : Int32 → Int32 → Int32 → Int32 → Int32 → zM → Prop} (hF : CallFix p m c cX6_goes 6 s args wsX6_goes RX6) (hSt : zSt G s) (hret : zRz p l e ({ frames := 3, cells := 0, slots := 0, locals := 73 } : Room) s m args below meth c Q cX6_goes G false O post) (hag5 : ∀ (x1 : Int32) (x2 : Int32) (x3 : Int32) (x4 : Int32) (M : zM) (H : Heap) (locs : List Loc) (ls : Array Slot), ag5 x1 x2 x3 x4 M → zH G false s H locs M O → lv_has ls 6 [(0, .ref (G.1 21)), (1, .int x1), (2, .int x2), (3, .int x3), (4, .int x4)] → W p l e ({ frames := 3, cells := 0, slots := 0, locals := 73 } : Room) s m args below meth c H locs 0 0 Q (F0 m 5 ls [])) (hag44 : ∀ (x1 : Int32) (x2 : Int32) (x3 : Int32) (x4 : Int32) (x5 : Int32) (M : zM) (H : Heap) (locs : List Loc) (ls : Array Slot), ag44 x1 x2 x3 x4 x5 M → zH G false s H locs M O → lv_has ls 6 [(0, .ref (G.1 21)), (1, .int x1), (2, .int x2), (3, .int x3), (4, .int x4), (5, .int x5)] → W p l e ({ frames := 3, cells := 0, slots := 0, locals := 73 } : Room) s m args below meth c H locs 0 0 Q (F0 m 44 ls [])) (x1 : Int32) (x2 : Int32) (x3 : Int32) (x4 : Int32) (x5 : Int32) (t0 : Int32) (t1 : Int32) (t2 : Int32) (t3 : Int32) (M : zM) (H : Heap) (locs : List Loc) (ls : Array Slot) (hH : zH G false s H locs M O) (hl : lv_has ls 6 [(0, .ref (G.1 21)), (1, .int x1), (2, .int x2), (3, .int x3), (4, .int x4), (5, .int x5)]) (h : pX6_goes_b106 post ag5 ag44 x1 x2 x3 x4 x5 t0 t1 t2 t3 M) : W p l e ({ frames := 3, cells := 0, slots := 0, locals := 73 } : Room) s m args below meth c H locs 0 0 Q (F0 m 106 ls [.int t0, .int t1, .int t2, .int t3, .ref (G.1 40)]) := by
  obtain ⟨hx, hb, hml, hown, hts⟩ := id hF
  unfold pX6_goes_b106 at h
  refine zcalliP hH (va_runS (As := [.int t1, .int t0]) (rest := [.int t2, .int t3, .ref (G.1 40)]) hF (kX6_product l G M O t1 t0 _ h) (va_cwS 2 hts gX6_goes_X6_product rfl rfl rfl zdX6_product ⟨Nat.le_of_ble_eq_true rfl, Nat.le_of_ble_eq_true rfl⟩) (zpreS hSt hH [.int t1, .int t0]) rfl rfl hl.1 rfl (lv_room (Nat.le_of_ble_eq_true rfl)) dX6_goes_106 ⟨Nat.zero_le _, Nat.zero_le _⟩) (fun r106 H locs h hH => ?_)
  refine lv_ixor hx hb dX6_goes_109 ?_
  obtain ⟨q110, h⟩ := h
  refine zast hF hSt hH 40 (by decide) rfl (zE_40 _) (x := (t2 ^^^ r106)) q110 dX6_goes_110 (fun H locs hH => ?_)
  refine lv_goto (tgt := 138) hx hb dX6_goes_111 (by decide) ?_
  exact wX6_goes_b138 hF hSt hret hag5 hag44 x1 x2 x3 x4 x5 (zsi M 40 t3.toNatClampNeg (t2 ^^^ r106)) H locs ls hH (lv_sub hl [0, 1, 2, 3, 4, 5] rfl) h
def pX6_goes_b65 (post : Int32 → zM → Prop) (ag5 : Int32 → Int32 → Int32 → Int32 → zM → Prop) (ag44 : Int32 → Int32 → Int32 → Int32 → Int32 → zM → Prop) (x1 : Int32) (x2 : Int32) (x3 : Int32) (x4 : Int32) (x5 : Int32) (M : zM) : Prop :=
  vp_in (((5 : Int32) * x3) + (4 : Int32)) 25 ∧ vp_in (((9 : Int32) * x4) + x5) 36 ∧ (¬ (x5 = x2) → vp_in x5 4 ∧ pX6_goes_b106 post ag5 ag44 x1 x2 x3 x4 x5 (M.1 39 x5.toNatClampNeg) (M.1 35 ((((9 : Int32) * x4) + x5)).toNatClampNeg) (M.1 40 ((((5 : Int32) * x3) + (4 : Int32))).toNatClampNeg) (((5 : Int32) * x3) + (4 : Int32)) M) ∧ (x5 = x2 → pX6_goes_b106 post ag5 ag44 x1 x2 x3 x4 x5 (1 : Int32) (M.1 35 ((((9 : Int32) * x4) + x5)).toNatClampNeg) (M.1 40 ((((5 : Int32) * x3) + (4 : Int32))).toNatClampNeg) (((5 : Int32) * x3) + (4 : Int32)) M)
set_option maxHeartbeats 4000000 in
set_option maxRecDepth 100000 in
theorem wX6_goes_b65 {post : Int32 → zM → Prop} {ag5 : Int32 → Int32 → Int32 → Int32 → zM → Prop} {ag44 : Int32 → Int32 → Int32 → Int32 → Int32 → zM → Prop} (hF : CallFix p m c cX6_goes 6 s args wsX6_goes RX6) (hSt : zSt G s) (hret : zRz p l e ({ frames := 3, cells := 0, slots := 0, locals := 73 } : Room) s m args below meth c Q cX6_goes G false O post) (hag5 : ∀ (x1 : Int32) (x2 : Int32) (x3 : Int32) (x4 : Int32) (M : zM) (H : Heap) (locs : List Loc) (ls : Array Slot), ag5 x1 x2 x3 x4 M → zH G false s H locs M O → lv_has ls 6 [(0, .ref (G.1 21)), (1, .int x1), (2, .int x2), (3, .int x3), (4, .int x4)] → W p l e ({ frames := 3, cells := 0, slots := 0, locals := 73 } : Room) s m args below meth c H locs 0 0 Q (F0 m 5 ls [])) (hag44 : ∀ (x1 : Int32) (x2 : Int32) (x3 : Int32) (x4 : Int32) (x5 : Int32) (M : zM) (H : Heap) (locs : List Loc) (ls : Array Slot), ag44 x1 x2 x3 x4 x5 M → zH G false s H locs M O → lv_has ls 6 [(0, .ref (G.1 21)), (1, .int x1), (2, .int x2), (3, .int x3), (4, .int x4), (5, .int x5)] → W p l e ({ frames := 3, cells := 0, slots := 0, locals := 73 } : Room) s m args below meth c H locs 0 0 Q (F0 m 44 ls [])) (x1 : Int32) (x2 : Int32) (x3 : Int32) (x4 : Int32) (x5 : Int32) (M : zM) (H : Heap) (locs : List Loc) (ls : Array Slot) (hH : zH G false s H locs M O) (hl : lv_has ls 6 [(0, .ref (G.1 21)), (1, .int x1), (2, .int x2), (3, .int x3), (4, .int x4), (5, .int x5)]) (h : pX6_goes_b65 post ag5 ag44 x1 x2 x3 x4 x5 M) : W p l e ({ frames := 3, cells := 0, slots := 0, locals := 73 } : Room) s m args below meth c H locs 0 0 Q (F0 m 65 ls []) := by
  obtain ⟨hx, hb, hml, hown, hts⟩ := id hF
  unfold pX6_goes_b65 at h
  refine lv_aload_n hx hb dX6_goes_65 rfl (lv_at hl 0 rfl) ?_
  refine zget (v := .ref (G.1 40)) hF hSt hH 21 (by decide) rfl (zE_21 _ _ _) (C := RX6) (T := TX6) (N := 31) rfl znX6_goes_X6 25 (by decide) (List.mem_of_getElem? (i := 2) rfl) rfl dX6_goes_66 ?_
  refine lv_iconst (v := (5 : Int32)) hx hb dX6_goes_69 (by decide) ?_
  refine lv_iload_n hx hb dX6_goes_70 rfl (lv_at hl 3 rfl) ?_
  refine lv_imul hx hb dX6_goes_71 ?_
  refine lv_iconst (v := (4 : Int32)) hx hb dX6_goes_72 (by decide) ?_
  refine lv_iadd hx hb dX6_goes_73 ?_
  refine lv_dup2_11 hx hb dX6_goes_74 rfl rfl ?_
  obtain ⟨q75, h⟩ := h
  refine zald hF hSt hH 40 (by decide) rfl (zE_40 _ _ _) q75 dX6_goes_75 ?_
  refine lv_aload_n hx hb dX6_goes_76 rfl (lv_at hl 0 rfl) ?_
  refine zget (v := .ref (G.1 35)) hF hSt hH 21 (by decide) rfl (zE_21 _ _ _) (C := RX6) (T := TX6) (N := 31) rfl znX6_goes_X6 19 (by decide) (List.mem_of_getElem? (i := 4) rfl) rfl dX6_goes_77 ?_
  refine lv_bipush (v := (9 : Int32)) hx hb dX6_goes_80 (by decide) ?_
  refine lv_iload hx hb dX6_goes_82 (lv_at hl 4 rfl) ?_
  refine lv_imul hx hb dX6_goes_84 ?_
  refine lv_iload hx hb dX6_goes_85 (lv_at hl 5 rfl) ?_
  refine lv_iadd hx hb dX6_goes_87 ?_
  obtain ⟨q88, h⟩ := h
  refine zald hF hSt hH 35 (by decide) rfl (zE_35 _ _ _) q88 dX6_goes_88 ?_
  refine lv_iload hx hb dX6_goes_89 (lv_at hl 5 rfl) ?_
  refine lv_iload_n hx hb dX6_goes_91 rfl (lv_at hl 2 rfl) ?_
  refine lv_icmp_ne (tgt := 99) hx hb dX6_goes_92 (by decide) (fun q92 => ?_) (fun q92 => ?_)
  · have h := h.1 q92
    refine lv_aload_n hx hb dX6_goes_99 rfl (lv_at hl 0 rfl) ?_
    refine zget (v := .ref (G.1 39)) hF hSt hH 21 (by decide) rfl (zE_21 _ _ _) (C := RX6) (T := TX6) (N := 31) rfl znX6_goes_X6 24 (by decide) (List.mem_of_getElem? (i := 5) rfl) rfl dX6_goes_100 ?_
    refine lv_iload hx hb dX6_goes_103 (lv_at hl 5 rfl) ?_
    obtain ⟨q105, h⟩ := h
    refine zald hF hSt hH 39 (by decide) rfl (zE_39 _ _ _) q105 dX6_goes_105 ?_
    exact wX6_goes_b106 hF hSt hret hag5 hag44 x1 x2 x3 x4 x5 (M.1 39 x5.toNatClampNeg) (M.1 35 ((((9 : Int32) * x4) + x5)).toNatClampNeg) (M.1 40 ((((5 : Int32) * x3) + (4 : Int32))).toNatClampNeg) (((5 : Int32) * x3) + (4 : Int32)) M H locs ls hH (lv_sub hl [0, 1, 2, 3, 4, 5] rfl) h
  · have h := h.2 q92
    refine lv_iconst (v := (1 : Int32)) hx hb dX6_goes_95 (by decide) ?_
    refine lv_goto (tgt := 106) hx hb dX6_goes_96 (by decide) ?_
    exact wX6_goes_b106 hF hSt hret hag5 hag44 x1 x2 x3 x4 x5 (1 : Int32) (M.1 35 ((((9 : Int32) * x4) + x5)).toNatClampNeg) (M.1 40 ((((5 : Int32) * x3) + (4 : Int32))).toNatClampNeg) (((5 : Int32) * x3) + (4 : Int32)) M H locs ls hH (lv_sub hl [0, 1, 2, 3, 4, 5] rfl) h
def pX6_goes_b44 (post : Int32 → zM → Prop) (ag5 : Int32 → Int32 → Int32 → Int32 → zM → Prop) (ag44 : Int32 → Int32 → Int32 → Int32 → Int32 → zM → Prop) (x1 : Int32) (x2 : Int32) (x3 : Int32) (x4 : Int32) (x5 : Int32) (M : zM) : Prop :=
  ((M.1 21 3) ≤ x5 → ag5 x1 x2 (x3 + (1 : Int32)) (x4 + (1 : Int32)) M) ∧ (¬ ((M.1 21 3) ≤ x5) → (x5 < x1 → pX6_goes_b65 post ag5 ag44 x1 x2 x3 x4 x5 M) ∧ (¬ (x5 < x1) → (¬ (x5 = x2) → vp_in (((9 : Int32) * x4) + x5) 36 ∧ vp_in (((5 : Int32) * x3) + x5) 25 ∧ pX6_goes_b138 post ag5 ag44 x1 x2 x3 x4 x5 (zsi M 40 ((((5 : Int32) * x3) + x5)).toNatClampNeg (M.1 35 ((((9 : Int32) * x4) + x5)).toNatClampNeg))) ∧ (x5 = x2 → pX6_goes_b65 post ag5 ag44 x1 x2 x3 x4 x5 M)))
set_option maxHeartbeats 4000000 in
set_option maxRecDepth 100000 in
theorem wX6_goes_b44 {post : Int32 → zM → Prop} {ag5 : Int32 → Int32 → Int32 → Int32 → zM → Prop} {ag44 : Int32 → Int32 → Int32 → Int32 → Int32 → zM → Prop} (hF : CallFix p m c cX6_goes 6 s args wsX6_goes RX6) (hSt : zSt G s) (hret : zRz p l e ({ frames := 3, cells := 0, slots := 0, locals := 73 } : Room) s m args below meth c Q cX6_goes G false O post) (hag5 : ∀ (x1 : Int32) (x2 : Int32) (x3 : Int32) (x4 : Int32) (M : zM) (H : Heap) (locs : List Loc) (ls : Array Slot), ag5 x1 x2 x3 x4 M → zH G false s H locs M O → lv_has ls 6 [(0, .ref (G.1 21)), (1, .int x1), (2, .int x2), (3, .int x3), (4, .int x4)] → W p l e ({ frames := 3, cells := 0, slots := 0, locals := 73 } : Room) s m args below meth c H locs 0 0 Q (F0 m 5 ls [])) (hag44 : ∀ (x1 : Int32) (x2 : Int32) (x3 : Int32) (x4 : Int32) (x5 : Int32) (M : zM) (H : Heap) (locs : List Loc) (ls : Array Slot), ag44 x1 x2 x3 x4 x5 M → zH G false s H locs M O → lv_has ls 6 [(0, .ref (G.1 21)), (1, .int x1), (2, .int x2), (3, .int x3), (4, .int x4), (5, .int x5)] → W p l e ({ frames := 3, cells := 0, slots := 0, locals := 73 } : Room) s m args below meth c H locs 0 0 Q (F0 m 44 ls [])) (x1 : Int32) (x2 : Int32) (x3 : Int32) (x4 : Int32) (x5 : Int32) (M : zM) (H : Heap) (locs : List Loc) (ls : Array Slot) (hH : zH G false s H locs M O) (hl : lv_has ls 6 [(0, .ref (G.1 21)), (1, .int x1), (2, .int x2), (3, .int x3), (4, .int x4), (5, .int x5)]) (h : pX6_goes_b44 post ag5 ag44 x1 x2 x3 x4 x5 M) : W p l e ({ frames := 3, cells := 0, slots := 0, locals := 73 } : Room) s m args below meth c H locs 0 0 Q (F0 m 44 ls []) := by
  obtain ⟨hx, hb, hml, hown, hts⟩ := id hF
  unfold pX6_goes_b44 at h
  refine lv_iload hx hb dX6_goes_44 (lv_at hl 5 rfl) ?_
  refine lv_aload_n hx hb dX6_goes_46 rfl (lv_at hl 0 rfl) ?_
  refine zget (v := .int (M.1 21 3)) hF hSt hH 21 (by decide) rfl (zE_21 _ _ _) (C := RX6) (T := TX6) (N := 31) rfl znX6_goes_X6 3 (by decide) (List.mem_of_getElem? (i := 3) rfl) rfl dX6_goes_47 ?_
  refine lv_icmp_ge (tgt := 144) hx hb dX6_goes_50 (by decide) (fun q50 => ?_) (fun q50 => ?_)
  · have h := h.1 q50
    refine lv_iinc (v := (x3 + (1 : Int32))) (lv' := [(3, .int (x3 + (1 : Int32))), (0, .ref (G.1 21)), (1, .int x1), (2, .int x2), (4, .int x4), (5, .int x5)]) hx hb dX6_goes_144 hl (k := 3) rfl rfl (by decide) rfl (fun ls hl => ?_)
    refine lv_iinc (v := (x4 + (1 : Int32))) (lv' := [(4, .int (x4 + (1 : Int32))), (3, .int (x3 + (1 : Int32))), (0, .ref (G.1 21)), (1, .int x1), (2, .int x2), (5, .int x5)]) hx hb dX6_goes_147 hl (k := 4) rfl rfl (by decide) rfl (fun ls hl => ?_)
    refine lv_goto (tgt := 5) hx hb dX6_goes_150 (by decide) ?_
    exact hag5 x1 x2 (x3 + (1 : Int32)) (x4 + (1 : Int32)) M H locs ls h hH (lv_sub hl [2, 3, 4, 1, 0] rfl)
  · have h := h.2 q50
    refine lv_iload hx hb dX6_goes_53 (lv_at hl 5 rfl) ?_
    refine lv_iload_n hx hb dX6_goes_55 rfl (lv_at hl 1 rfl) ?_
    refine lv_icmp_lt (tgt := 65) hx hb dX6_goes_56 (by decide) (fun q56 => ?_) (fun q56 => ?_)
    · have h := h.1 q56
      exact wX6_goes_b65 hF hSt hret hag5 hag44 x1 x2 x3 x4 x5 M H locs ls hH (lv_sub hl [0, 1, 2, 3, 4, 5] rfl) h
    · have h := h.2 q56
      refine lv_iload hx hb dX6_goes_59 (lv_at hl 5 rfl) ?_
      refine lv_iload_n hx hb dX6_goes_61 rfl (lv_at hl 2 rfl) ?_
      refine lv_icmp_ne (tgt := 114) hx hb dX6_goes_62 (by decide) (fun q62 => ?_) (fun q62 => ?_)
      · have h := h.1 q62
        refine lv_aload_n hx hb dX6_goes_114 rfl (lv_at hl 0 rfl) ?_
        refine zget (v := .ref (G.1 40)) hF hSt hH 21 (by decide) rfl (zE_21 _ _ _) (C := RX6) (T := TX6) (N := 31) rfl znX6_goes_X6 25 (by decide) (List.mem_of_getElem? (i := 2) rfl) rfl dX6_goes_115 ?_
        refine lv_iconst (v := (5 : Int32)) hx hb dX6_goes_118 (by decide) ?_
        refine lv_iload_n hx hb dX6_goes_119 rfl (lv_at hl 3 rfl) ?_
        refine lv_imul hx hb dX6_goes_120 ?_
        refine lv_iload hx hb dX6_goes_121 (lv_at hl 5 rfl) ?_
        refine lv_iadd hx hb dX6_goes_123 ?_
        refine lv_aload_n hx hb dX6_goes_124 rfl (lv_at hl 0 rfl) ?_
        refine zget (v := .ref (G.1 35)) hF hSt hH 21 (by decide) rfl (zE_21 _ _ _) (C := RX6) (T := TX6) (N := 31) rfl znX6_goes_X6 19 (by decide) (List.mem_of_getElem? (i := 4) rfl) rfl dX6_goes_125 ?_
        refine lv_bipush (v := (9 : Int32)) hx hb dX6_goes_128 (by decide) ?_
        refine lv_iload hx hb dX6_goes_130 (lv_at hl 4 rfl) ?_
        refine lv_imul hx hb dX6_goes_132 ?_
        refine lv_iload hx hb dX6_goes_133 (lv_at hl 5 rfl) ?_
        refine lv_iadd hx hb dX6_goes_135 ?_
        obtain ⟨q136, h⟩ := h
        refine zald hF hSt hH 35 (by decide) rfl (zE_35 _ _ _) q136 dX6_goes_136 ?_
        obtain ⟨q137, h⟩ := h
        refine zast hF hSt hH 40 (by decide) rfl (zE_40 _) (x := (M.1 35 ((((9 : Int32) * x4) + x5)).toNatClampNeg)) q137 dX6_goes_137 (fun H locs hH => ?_)
        exact wX6_goes_b138 hF hSt hret hag5 hag44 x1 x2 x3 x4 x5 (zsi M 40 ((((5 : Int32) * x3) + x5)).toNatClampNeg (M.1 35 ((((9 : Int32) * x4) + x5)).toNatClampNeg)) H locs ls hH (lv_sub hl [0, 1, 2, 3, 4, 5] rfl) h
      · have h := h.2 q62
        exact wX6_goes_b65 hF hSt hret hag5 hag44 x1 x2 x3 x4 x5 M H locs ls hH (lv_sub hl [0, 1, 2, 3, 4, 5] rfl) h
def pX6_goes_L44 (post : Int32 → zM → Prop) (ag5 : Int32 → Int32 → Int32 → Int32 → zM → Prop) (x1 : Int32) (x2 : Int32) (x3 : Int32) (x4 : Int32) (x5 : Int32) (M : zM) : Prop :=
  ∃ I : Nat → Int32 → Int32 → Int32 → Int32 → Int32 → zM → Prop, (∃ n, I n x1 x2 x3 x4 x5 M) ∧ ∀ n x1 x2 x3 x4 x5 M, I n x1 x2 x3 x4 x5 M → pX6_goes_b44 post ag5 (fun x1 x2 x3 x4 x5 M => ∃ k, k < n ∧ I k x1 x2 x3 x4 x5 M) x1 x2 x3 x4 x5 M
set_option maxHeartbeats 4000000 in
theorem wX6_goes_L44 {post : Int32 → zM → Prop} {ag5 : Int32 → Int32 → Int32 → Int32 → zM → Prop} (hF : CallFix p m c cX6_goes 6 s args wsX6_goes RX6) (hSt : zSt G s) (hret : zRz p l e ({ frames := 3, cells := 0, slots := 0, locals := 73 } : Room) s m args below meth c Q cX6_goes G false O post) (hag5 : ∀ (x1 : Int32) (x2 : Int32) (x3 : Int32) (x4 : Int32) (M : zM) (H : Heap) (locs : List Loc) (ls : Array Slot), ag5 x1 x2 x3 x4 M → zH G false s H locs M O → lv_has ls 6 [(0, .ref (G.1 21)), (1, .int x1), (2, .int x2), (3, .int x3), (4, .int x4)] → W p l e ({ frames := 3, cells := 0, slots := 0, locals := 73 } : Room) s m args below meth c H locs 0 0 Q (F0 m 5 ls [])) (x1 : Int32) (x2 : Int32) (x3 : Int32) (x4 : Int32) (x5 : Int32) (M : zM) (H : Heap) (locs : List Loc) (ls : Array Slot) (hH : zH G false s H locs M O) (hl : lv_has ls 6 [(0, .ref (G.1 21)), (1, .int x1), (2, .int x2), (3, .int x3), (4, .int x4), (5, .int x5)]) (h : pX6_goes_L44 post ag5 x1 x2 x3 x4 x5 M) : W p l e ({ frames := 3, cells := 0, slots := 0, locals := 73 } : Room) s m args below meth c H locs 0 0 Q (F0 m 44 ls []) := by
  obtain ⟨I, ⟨n, hI⟩, hs⟩ := h
  have key : ∀ (n : Nat) (x1 : Int32) (x2 : Int32) (x3 : Int32) (x4 : Int32) (x5 : Int32) (M : zM) (H : Heap) (locs : List Loc) (ls : Array Slot), I n x1 x2 x3 x4 x5 M → zH G false s H locs M O → lv_has ls 6 [(0, .ref (G.1 21)), (1, .int x1), (2, .int x2), (3, .int x3), (4, .int x4), (5, .int x5)] → W p l e ({ frames := 3, cells := 0, slots := 0, locals := 73 } : Room) s m args below meth c H locs 0 0 Q (F0 m 44 ls []) := by
    intro n
    induction n using Nat.strongRecOn with
    | _ n ih =>
      intro x1 x2 x3 x4 x5 M H locs ls hI hH hl
      exact wX6_goes_b44 hF hSt hret hag5 (fun x1 x2 x3 x4 x5 M H locs ls h hH hl => by obtain ⟨k, hk, hI⟩ := h; exact ih k hk x1 x2 x3 x4 x5 M H locs ls hI hH hl) x1 x2 x3 x4 x5 M H locs ls hH hl (hs n x1 x2 x3 x4 x5 M hI)
  exact key n x1 x2 x3 x4 x5 M H locs ls hI hH hl
def pX6_goes_b17 (post : Int32 → zM → Prop) (ag5 : Int32 → Int32 → Int32 → Int32 → zM → Prop) (ag17 : Int32 → Int32 → Int32 → Int32 → Int32 → zM → Prop) (x1 : Int32) (x2 : Int32) (x3 : Int32) (x4 : Int32) (x5 : Int32) (M : zM) : Prop :=
  ((5 : Int32) ≤ x5 → pX6_goes_L44 post ag5 x1 x2 x3 x4 (0 : Int32) M) ∧ (¬ ((5 : Int32) ≤ x5) → vp_in (((5 : Int32) * x3) + x5) 25 ∧ ag17 x1 x2 x3 x4 (x5 + (1 : Int32)) (zsi M 40 ((((5 : Int32) * x3) + x5)).toNatClampNeg (0 : Int32)))
set_option maxHeartbeats 4000000 in
set_option maxRecDepth 100000 in
theorem wX6_goes_b17 {post : Int32 → zM → Prop} {ag5 : Int32 → Int32 → Int32 → Int32 → zM → Prop} {ag17 : Int32 → Int32 → Int32 → Int32 → Int32 → zM → Prop} (hF : CallFix p m c cX6_goes 6 s args wsX6_goes RX6) (hSt : zSt G s) (hret : zRz p l e ({ frames := 3, cells := 0, slots := 0, locals := 73 } : Room) s m args below meth c Q cX6_goes G false O post) (hag5 : ∀ (x1 : Int32) (x2 : Int32) (x3 : Int32) (x4 : Int32) (M : zM) (H : Heap) (locs : List Loc) (ls : Array Slot), ag5 x1 x2 x3 x4 M → zH G false s H locs M O → lv_has ls 6 [(0, .ref (G.1 21)), (1, .int x1), (2, .int x2), (3, .int x3), (4, .int x4)] → W p l e ({ frames := 3, cells := 0, slots := 0, locals := 73 } : Room) s m args below meth c H locs 0 0 Q (F0 m 5 ls [])) (hag17 : ∀ (x1 : Int32) (x2 : Int32) (x3 : Int32) (x4 : Int32) (x5 : Int32) (M : zM) (H : Heap) (locs : List Loc) (ls : Array Slot), ag17 x1 x2 x3 x4 x5 M → zH G false s H locs M O → lv_has ls 6 [(0, .ref (G.1 21)), (1, .int x1), (2, .int x2), (3, .int x3), (4, .int x4), (5, .int x5)] → W p l e ({ frames := 3, cells := 0, slots := 0, locals := 73 } : Room) s m args below meth c H locs 0 0 Q (F0 m 17 ls [])) (x1 : Int32) (x2 : Int32) (x3 : Int32) (x4 : Int32) (x5 : Int32) (M : zM) (H : Heap) (locs : List Loc) (ls : Array Slot) (hH : zH G false s H locs M O) (hl : lv_has ls 6 [(0, .ref (G.1 21)), (1, .int x1), (2, .int x2), (3, .int x3), (4, .int x4), (5, .int x5)]) (h : pX6_goes_b17 post ag5 ag17 x1 x2 x3 x4 x5 M) : W p l e ({ frames := 3, cells := 0, slots := 0, locals := 73 } : Room) s m args below meth c H locs 0 0 Q (F0 m 17 ls []) := by
  obtain ⟨hx, hb, hml, hown, hts⟩ := id hF
  unfold pX6_goes_b17 at h
  refine lv_iload hx hb dX6_goes_17 (lv_at hl 5 rfl) ?_
  refine lv_iconst (v := (5 : Int32)) hx hb dX6_goes_19 (by decide) ?_
  refine lv_icmp_ge (tgt := 41) hx hb dX6_goes_20 (by decide) (fun q20 => ?_) (fun q20 => ?_)
  · have h := h.1 q20
    refine lv_iconst (v := (0 : Int32)) hx hb dX6_goes_41 (by decide) ?_
    refine lv_istore (lv' := [(5, .int (0 : Int32)), (0, .ref (G.1 21)), (1, .int x1), (2, .int x2), (3, .int x3), (4, .int x4)]) hx hb dX6_goes_42 hl (by decide) rfl (fun ls hl => ?_)
    exact wX6_goes_L44 hF hSt hret hag5 x1 x2 x3 x4 (0 : Int32) M H locs ls hH (lv_sub hl [1, 2, 3, 4, 5, 0] rfl) h
  · have h := h.2 q20
    refine lv_aload_n hx hb dX6_goes_23 rfl (lv_at hl 0 rfl) ?_
    refine zget (v := .ref (G.1 40)) hF hSt hH 21 (by decide) rfl (zE_21 _ _ _) (C := RX6) (T := TX6) (N := 31) rfl znX6_goes_X6 25 (by decide) (List.mem_of_getElem? (i := 2) rfl) rfl dX6_goes_24 ?_
    refine lv_iconst (v := (5 : Int32)) hx hb dX6_goes_27 (by decide) ?_
    refine lv_iload_n hx hb dX6_goes_28 rfl (lv_at hl 3 rfl) ?_
    refine lv_imul hx hb dX6_goes_29 ?_
    refine lv_iload hx hb dX6_goes_30 (lv_at hl 5 rfl) ?_
    refine lv_iadd hx hb dX6_goes_32 ?_
    refine lv_iconst (v := (0 : Int32)) hx hb dX6_goes_33 (by decide) ?_
    obtain ⟨q34, h⟩ := h
    refine zast hF hSt hH 40 (by decide) rfl (zE_40 _) (x := (0 : Int32)) q34 dX6_goes_34 (fun H locs hH => ?_)
    refine lv_iinc (v := (x5 + (1 : Int32))) (lv' := [(5, .int (x5 + (1 : Int32))), (0, .ref (G.1 21)), (1, .int x1), (2, .int x2), (3, .int x3), (4, .int x4)]) hx hb dX6_goes_35 hl (k := 5) rfl rfl (by decide) rfl (fun ls hl => ?_)
    refine lv_goto (tgt := 17) hx hb dX6_goes_38 (by decide) ?_
    exact hag17 x1 x2 x3 x4 (x5 + (1 : Int32)) (zsi M 40 ((((5 : Int32) * x3) + x5)).toNatClampNeg (0 : Int32)) H locs ls h hH (lv_sub hl [1, 2, 3, 4, 5, 0] rfl)
def pX6_goes_L17 (post : Int32 → zM → Prop) (ag5 : Int32 → Int32 → Int32 → Int32 → zM → Prop) (x1 : Int32) (x2 : Int32) (x3 : Int32) (x4 : Int32) (x5 : Int32) (M : zM) : Prop :=
  ∃ I : Nat → Int32 → Int32 → Int32 → Int32 → Int32 → zM → Prop, (∃ n, I n x1 x2 x3 x4 x5 M) ∧ ∀ n x1 x2 x3 x4 x5 M, I n x1 x2 x3 x4 x5 M → pX6_goes_b17 post ag5 (fun x1 x2 x3 x4 x5 M => ∃ k, k < n ∧ I k x1 x2 x3 x4 x5 M) x1 x2 x3 x4 x5 M
set_option maxHeartbeats 4000000 in
theorem wX6_goes_L17 {post : Int32 → zM → Prop} {ag5 : Int32 → Int32 → Int32 → Int32 → zM → Prop} (hF : CallFix p m c cX6_goes 6 s args wsX6_goes RX6) (hSt : zSt G s) (hret : zRz p l e ({ frames := 3, cells := 0, slots := 0, locals := 73 } : Room) s m args below meth c Q cX6_goes G false O post) (hag5 : ∀ (x1 : Int32) (x2 : Int32) (x3 : Int32) (x4 : Int32) (M : zM) (H : Heap) (locs : List Loc) (ls : Array Slot), ag5 x1 x2 x3 x4 M → zH G false s H locs M O → lv_has ls 6 [(0, .ref (G.1 21)), (1, .int x1), (2, .int x2), (3, .int x3), (4, .int x4)] → W p l e ({ frames := 3, cells := 0, slots := 0, locals := 73 } : Room) s m args below meth c H locs 0 0 Q (F0 m 5 ls [])) (x1 : Int32) (x2 : Int32) (x3 : Int32) (x4 : Int32) (x5 : Int32) (M : zM) (H : Heap) (locs : List Loc) (ls : Array Slot) (hH : zH G false s H locs M O) (hl : lv_has ls 6 [(0, .ref (G.1 21)), (1, .int x1), (2, .int x2), (3, .int x3), (4, .int x4), (5, .int x5)]) (h : pX6_goes_L17 post ag5 x1 x2 x3 x4 x5 M) : W p l e ({ frames := 3, cells := 0, slots := 0, locals := 73 } : Room) s m args below meth c H locs 0 0 Q (F0 m 17 ls []) := by
  obtain ⟨I, ⟨n, hI⟩, hs⟩ := h
  have key : ∀ (n : Nat) (x1 : Int32) (x2 : Int32) (x3 : Int32) (x4 : Int32) (x5 : Int32) (M : zM) (H : Heap) (locs : List Loc) (ls : Array Slot), I n x1 x2 x3 x4 x5 M → zH G false s H locs M O → lv_has ls 6 [(0, .ref (G.1 21)), (1, .int x1), (2, .int x2), (3, .int x3), (4, .int x4), (5, .int x5)] → W p l e ({ frames := 3, cells := 0, slots := 0, locals := 73 } : Room) s m args below meth c H locs 0 0 Q (F0 m 17 ls []) := by
    intro n
    induction n using Nat.strongRecOn with
    | _ n ih =>
      intro x1 x2 x3 x4 x5 M H locs ls hI hH hl
      exact wX6_goes_b17 hF hSt hret hag5 (fun x1 x2 x3 x4 x5 M H locs ls h hH hl => by obtain ⟨k, hk, hI⟩ := h; exact ih k hk x1 x2 x3 x4 x5 M H locs ls hI hH hl) x1 x2 x3 x4 x5 M H locs ls hH hl (hs n x1 x2 x3 x4 x5 M hI)
  exact key n x1 x2 x3 x4 x5 M H locs ls hI hH hl
def pX6_goes_b5 (post : Int32 → zM → Prop) (ag5 : Int32 → Int32 → Int32 → Int32 → zM → Prop) (x1 : Int32) (x2 : Int32) (x3 : Int32) (x4 : Int32) (M : zM) : Prop :=
  ((M.1 21 22) ≤ x4 → pX6_isSolvable M x3 (fun r155 M155 => (r155 = 0 ∨ r155 = 1) ∧ post r155 M155)) ∧ (¬ ((M.1 21 22) ≤ x4) → pX6_goes_L17 post ag5 x1 x2 x3 x4 (0 : Int32) M)
set_option maxHeartbeats 4000000 in
set_option maxRecDepth 100000 in
theorem wX6_goes_b5 {post : Int32 → zM → Prop} {ag5 : Int32 → Int32 → Int32 → Int32 → zM → Prop} (hF : CallFix p m c cX6_goes 6 s args wsX6_goes RX6) (hSt : zSt G s) (hret : zRz p l e ({ frames := 3, cells := 0, slots := 0, locals := 73 } : Room) s m args below meth c Q cX6_goes G false O post) (hag5 : ∀ (x1 : Int32) (x2 : Int32) (x3 : Int32) (x4 : Int32) (M : zM) (H : Heap) (locs : List Loc) (ls : Array Slot), ag5 x1 x2 x3 x4 M → zH G false s H locs M O → lv_has ls 6 [(0, .ref (G.1 21)), (1, .int x1), (2, .int x2), (3, .int x3), (4, .int x4)] → W p l e ({ frames := 3, cells := 0, slots := 0, locals := 73 } : Room) s m args below meth c H locs 0 0 Q (F0 m 5 ls [])) (x1 : Int32) (x2 : Int32) (x3 : Int32) (x4 : Int32) (M : zM) (H : Heap) (locs : List Loc) (ls : Array Slot) (hH : zH G false s H locs M O) (hl : lv_has ls 6 [(0, .ref (G.1 21)), (1, .int x1), (2, .int x2), (3, .int x3), (4, .int x4)]) (h : pX6_goes_b5 post ag5 x1 x2 x3 x4 M) : W p l e ({ frames := 3, cells := 0, slots := 0, locals := 73 } : Room) s m args below meth c H locs 0 0 Q (F0 m 5 ls []) := by
  obtain ⟨hx, hb, hml, hown, hts⟩ := id hF
  unfold pX6_goes_b5 at h
  refine lv_iload hx hb dX6_goes_5 (lv_at hl 4 rfl) ?_
  refine lv_aload_n hx hb dX6_goes_7 rfl (lv_at hl 0 rfl) ?_
  refine zget (v := .int (M.1 21 22)) hF hSt hH 21 (by decide) rfl (zE_21 _ _ _) (C := RX6) (T := TX6) (N := 31) rfl znX6_goes_X6 22 (by decide) (List.mem_of_getElem? (i := 1) rfl) rfl dX6_goes_8 ?_
  refine lv_icmp_ge (tgt := 153) hx hb dX6_goes_11 (by decide) (fun q11 => ?_) (fun q11 => ?_)
  · have h := h.1 q11
    refine lv_aload_n hx hb dX6_goes_153 rfl (lv_at hl 0 rfl) ?_
    refine lv_iload_n hx hb dX6_goes_154 rfl (lv_at hl 3 rfl) ?_
    refine zcalli hH (va_runV (As := [.int x3]) (rest := []) hF (kX6_isSolvable l G M O x3 _ h) (cwV 1 hts gX6_goes_X6_isSolvable rfl rfl rfl ⟨rfl, zdX6_isSolvable⟩ ⟨Nat.le_of_ble_eq_true rfl, Nat.le_of_ble_eq_true rfl⟩) (zpreV hSt hH 21 (by decide) rfl (zE_21 _ _ _) (q := (RX6, TX6, 31)) rfl [.int x3]) rfl rfl hl.1 rfl (lv_room (Nat.le_of_ble_eq_true rfl)) dX6_goes_155 ⟨Nat.zero_le _, Nat.zero_le _⟩) (fun r155 M155 H locs h hH => ?_)
    exact hret _ _ _ _ _ _ dX6_goes_158 h hH
  · have h := h.2 q11
    refine lv_iconst (v := (0 : Int32)) hx hb dX6_goes_14 (by decide) ?_
    refine lv_istore (lv' := [(5, .int (0 : Int32)), (0, .ref (G.1 21)), (1, .int x1), (2, .int x2), (3, .int x3), (4, .int x4)]) hx hb dX6_goes_15 hl (by decide) rfl (fun ls hl => ?_)
    exact wX6_goes_L17 hF hSt hret hag5 x1 x2 x3 x4 (0 : Int32) M H locs ls hH (lv_sub hl [1, 2, 3, 4, 5, 0] rfl) h
def pX6_goes_L5 (post : Int32 → zM → Prop) (x1 : Int32) (x2 : Int32) (x3 : Int32) (x4 : Int32) (M : zM) : Prop :=
  ∃ I : Nat → Int32 → Int32 → Int32 → Int32 → zM → Prop, (∃ n, I n x1 x2 x3 x4 M) ∧ ∀ n x1 x2 x3 x4 M, I n x1 x2 x3 x4 M → pX6_goes_b5 post (fun x1 x2 x3 x4 M => ∃ k, k < n ∧ I k x1 x2 x3 x4 M) x1 x2 x3 x4 M
set_option maxHeartbeats 4000000 in
theorem wX6_goes_L5 {post : Int32 → zM → Prop}  (hF : CallFix p m c cX6_goes 6 s args wsX6_goes RX6) (hSt : zSt G s) (hret : zRz p l e ({ frames := 3, cells := 0, slots := 0, locals := 73 } : Room) s m args below meth c Q cX6_goes G false O post) (x1 : Int32) (x2 : Int32) (x3 : Int32) (x4 : Int32) (M : zM) (H : Heap) (locs : List Loc) (ls : Array Slot) (hH : zH G false s H locs M O) (hl : lv_has ls 6 [(0, .ref (G.1 21)), (1, .int x1), (2, .int x2), (3, .int x3), (4, .int x4)]) (h : pX6_goes_L5 post x1 x2 x3 x4 M) : W p l e ({ frames := 3, cells := 0, slots := 0, locals := 73 } : Room) s m args below meth c H locs 0 0 Q (F0 m 5 ls []) := by
  obtain ⟨I, ⟨n, hI⟩, hs⟩ := h
  have key : ∀ (n : Nat) (x1 : Int32) (x2 : Int32) (x3 : Int32) (x4 : Int32) (M : zM) (H : Heap) (locs : List Loc) (ls : Array Slot), I n x1 x2 x3 x4 M → zH G false s H locs M O → lv_has ls 6 [(0, .ref (G.1 21)), (1, .int x1), (2, .int x2), (3, .int x3), (4, .int x4)] → W p l e ({ frames := 3, cells := 0, slots := 0, locals := 73 } : Room) s m args below meth c H locs 0 0 Q (F0 m 5 ls []) := by
    intro n
    induction n using Nat.strongRecOn with
    | _ n ih =>
      intro x1 x2 x3 x4 M H locs ls hI hH hl
      exact wX6_goes_b5 hF hSt hret (fun x1 x2 x3 x4 M H locs ls h hH hl => by obtain ⟨k, hk, hI⟩ := h; exact ih k hk x1 x2 x3 x4 M H locs ls hI hH hl) x1 x2 x3 x4 M H locs ls hH hl (hs n x1 x2 x3 x4 M hI)
  exact key n x1 x2 x3 x4 M H locs ls hI hH hl
def pX6_goes (M : zM) (x1 : Int32) (x2 : Int32) (post : Int32 → zM → Prop) : Prop :=
  pX6_goes_L5 post x1 x2 (0 : Int32) (0 : Int32) M
set_option maxHeartbeats 4000000 in
set_option maxRecDepth 100000 in
theorem wX6_goes {M : zM} {post : Int32 → zM → Prop} (hF : CallFix p m c cX6_goes 6 s args wsX6_goes RX6) (hSt : zSt G s) (hret : zRz p l e ({ frames := 3, cells := 0, slots := 0, locals := 73 } : Room) s m args below meth c Q cX6_goes G false O post) (x1 : Int32) (x2 : Int32) (H : Heap) (locs : List Loc) (ls : Array Slot) (hH : zH G false s H locs M O) (hl : lv_has ls 6 [(0, .ref (G.1 21)), (1, .int x1), (2, .int x2)]) (h : pX6_goes M x1 x2 post) : W p l e ({ frames := 3, cells := 0, slots := 0, locals := 73 } : Room) s m args below meth c H locs 0 0 Q (F0 m 0 ls []) := by
  obtain ⟨hx, hb, hml, hown, hts⟩ := id hF
  unfold pX6_goes at h
  refine lv_iconst (v := (0 : Int32)) hx hb dX6_goes_0 (by decide) ?_
  refine lv_istore_n (lv' := [(3, .int (0 : Int32)), (0, .ref (G.1 21)), (1, .int x1), (2, .int x2)]) hx hb dX6_goes_1 rfl hl (by decide) rfl (fun ls hl => ?_)
  refine lv_iconst (v := (0 : Int32)) hx hb dX6_goes_2 (by decide) ?_
  refine lv_istore (lv' := [(4, .int (0 : Int32)), (3, .int (0 : Int32)), (0, .ref (G.1 21)), (1, .int x1), (2, .int x2)]) hx hb dX6_goes_3 hl (by decide) rfl (fun ls hl => ?_)
  exact wX6_goes_L5 hF hSt hret x1 x2 (0 : Int32) (0 : Int32) M H locs ls hH (lv_sub hl [2, 3, 4, 1, 0] rfl) h
set_option maxRecDepth 100000 in
theorem kX6_goes (l : Launch) (G : zG) (M O : zM) (x1 : Int32) (x2 : Int32) (post : Int32 → zM → Prop) (h : pX6_goes M x1 x2 post) : Met l yX6_goes wsX6_goes ({ frames := 3, cells := 0, slots := 0, locals := 73 } : Room) (zPc G false M O [.ref (G.1 21), .int x1, .int x2]) (va_Qi post (zB G false O) (zAA G)) 0 0 (zAA G) :=
  zmet_z (by decide) rfl (Nat.le_of_ble_eq_true rfl) (fun hF hSt hret H locs ls hH hl => wX6_goes hF hSt hret x1 x2 H locs ls hH hl h)
end
theorem znX6_lack_X6 : ∀ w ∈ wsX60, w ∈ wsX6_lack := fun _ h => List.mem_cons_of_mem _ (List.mem_append_right _ h)
theorem zdX6_lack : yX6_lack.cls ≠ "java/lang/invoke/MethodHandle" ∧ yX6_lack.cls ≠ "java/lang/invoke/VarHandle" ∧ (parseMethodDescriptor yX6_lack.desc).map (fun d => d.parameters.length) = some 3 := by decide +kernel
-- MixingRelaysModel lack(III)I
section
variable {p : Program} {l : Launch} {e : Env} {s : State} {m : MethodId} {args : Array Value} {below : List Frame} {meth : Method} {c : Code} {Q : State → Prop} {G : zG} {O : zM}
def pX6_lack_b36 (post : Int32 → zM → Prop) (M : zM) : Prop :=
  post (-1 : Int32) M
set_option maxHeartbeats 4000000 in
set_option maxRecDepth 100000 in
theorem wX6_lack_b36 {post : Int32 → zM → Prop}  (hF : CallFix p m c cX6_lack 5 s args wsX6_lack RX6) (hSt : zSt G s) (hret : zRi p l e ({ frames := 4, cells := 0, slots := 0, locals := 98 } : Room) s m args below meth c Q cX6_lack G false O post) (M : zM) (H : Heap) (locs : List Loc) (ls : Array Slot) (hH : zH G false s H locs M O) (hl : lv_has ls 5 []) (h : pX6_lack_b36 post M) : W p l e ({ frames := 4, cells := 0, slots := 0, locals := 98 } : Room) s m args below meth c H locs 0 0 Q (F0 m 36 ls []) := by
  obtain ⟨hx, hb, hml, hown, hts⟩ := id hF
  unfold pX6_lack_b36 at h
  refine lv_iconst (v := (-1 : Int32)) hx hb dX6_lack_36 (by decide) ?_
  exact hret _ _ _ _ _ _ dX6_lack_37 h hH
def pX6_lack_b94 (post : Int32 → zM → Prop) (ag67 : Int32 → Int32 → Int32 → zM → Prop) (ag94 : Int32 → Int32 → Int32 → zM → Prop) (x2 : Int32) (x3 : Int32) (x4 : Int32) (M : zM) : Prop :=
  pX6_goes M (x4 + (1 : Int32)) x2 (fun r100 M100 => (¬ (r100 = 0) → ag67 x2 x3 (x4 + (1 : Int32)) M100) ∧ (r100 = 0 → vp_in x4 4 ∧ vp_in x4 4 ∧ ag94 x2 x3 x4 (zsi M100 39 x4.toNatClampNeg ((M100.1 39 x4.toNatClampNeg) + (1 : Int32)))))
set_option maxHeartbeats 4000000 in
set_option maxRecDepth 100000 in
theorem wX6_lack_b94 {post : Int32 → zM → Prop} {ag67 : Int32 → Int32 → Int32 → zM → Prop} {ag94 : Int32 → Int32 → Int32 → zM → Prop} (hF : CallFix p m c cX6_lack 5 s args wsX6_lack RX6) (hSt : zSt G s) (hret : zRi p l e ({ frames := 4, cells := 0, slots := 0, locals := 98 } : Room) s m args below meth c Q cX6_lack G false O post) (hag67 : ∀ (x2 : Int32) (x3 : Int32) (x4 : Int32) (M : zM) (H : Heap) (locs : List Loc) (ls : Array Slot), ag67 x2 x3 x4 M → zH G false s H locs M O → lv_has ls 5 [(0, .ref (G.1 21)), (2, .int x2), (3, .int x3), (4, .int x4)] → W p l e ({ frames := 4, cells := 0, slots := 0, locals := 98 } : Room) s m args below meth c H locs 0 0 Q (F0 m 67 ls [])) (hag94 : ∀ (x2 : Int32) (x3 : Int32) (x4 : Int32) (M : zM) (H : Heap) (locs : List Loc) (ls : Array Slot), ag94 x2 x3 x4 M → zH G false s H locs M O → lv_has ls 5 [(0, .ref (G.1 21)), (2, .int x2), (3, .int x3), (4, .int x4)] → W p l e ({ frames := 4, cells := 0, slots := 0, locals := 98 } : Room) s m args below meth c H locs 0 0 Q (F0 m 94 ls [])) (x2 : Int32) (x3 : Int32) (x4 : Int32) (M : zM) (H : Heap) (locs : List Loc) (ls : Array Slot) (hH : zH G false s H locs M O) (hl : lv_has ls 5 [(0, .ref (G.1 21)), (2, .int x2), (3, .int x3), (4, .int x4)]) (h : pX6_lack_b94 post ag67 ag94 x2 x3 x4 M) : W p l e ({ frames := 4, cells := 0, slots := 0, locals := 98 } : Room) s m args below meth c H locs 0 0 Q (F0 m 94 ls []) := by
  obtain ⟨hx, hb, hml, hown, hts⟩ := id hF
  unfold pX6_lack_b94 at h
  refine lv_aload_n hx hb dX6_lack_94 rfl (lv_at hl 0 rfl) ?_
  refine lv_iload hx hb dX6_lack_95 (lv_at hl 3 rfl) ?_
  refine lv_iconst (v := (1 : Int32)) hx hb dX6_lack_97 (by decide) ?_
  refine lv_iadd hx hb dX6_lack_98 ?_
  refine lv_iload_n hx hb dX6_lack_99 rfl (lv_at hl 1 rfl) ?_
  refine zcalli hH (va_runV (As := [.int (x4 + (1 : Int32)), .int x2]) (rest := []) hF (kX6_goes l G M O (x4 + (1 : Int32)) x2 _ h) (cwV 2 hts gX6_lack_X6_goes rfl rfl rfl ⟨rfl, zdX6_goes⟩ ⟨Nat.le_of_ble_eq_true rfl, Nat.le_of_ble_eq_true rfl⟩) (zpreV hSt hH 21 (by decide) rfl (zE_21 _ _ _) (q := (RX6, TX6, 31)) rfl [.int (x4 + (1 : Int32)), .int x2]) rfl rfl hl.1 rfl (lv_room (Nat.le_of_ble_eq_true rfl)) dX6_lack_100 ⟨Nat.zero_le _, Nat.zero_le _⟩) (fun r100 M100 H locs h hH => ?_)
  refine lv_if_ne (tgt := 120) hx hb dX6_lack_103 (by decide) (fun q103 => ?_) (fun q103 => ?_)
  · have h := h.1 q103
    refine lv_iinc (v := (x4 + (1 : Int32))) (lv' := [(4, .int (x4 + (1 : Int32))), (0, .ref (G.1 21)), (2, .int x2), (3, .int x3)]) hx hb dX6_lack_120 hl (k := 3) rfl rfl (by decide) rfl (fun ls hl => ?_)
    refine lv_goto (tgt := 67) hx hb dX6_lack_123 (by decide) ?_
    exact hag67 x2 x3 (x4 + (1 : Int32)) M100 H locs ls h hH (lv_sub hl [1, 2, 3, 0] rfl)
  · have h := h.2 q103
    refine lv_aload_n hx hb dX6_lack_106 rfl (lv_at hl 0 rfl) ?_
    refine zget (v := .ref (G.1 39)) hF hSt hH 21 (by decide) rfl (zE_21 _ _ _) (C := RX6) (T := TX6) (N := 31) rfl znX6_lack_X6 24 (by decide) (List.mem_of_getElem? (i := 2) rfl) rfl dX6_lack_107 ?_
    refine lv_iload hx hb dX6_lack_110 (lv_at hl 3 rfl) ?_
    refine lv_dup2_11 hx hb dX6_lack_112 rfl rfl ?_
    obtain ⟨q113, h⟩ := h
    refine zald hF hSt hH 39 (by decide) rfl (zE_39 _ _ _) q113 dX6_lack_113 ?_
    refine lv_iconst (v := (1 : Int32)) hx hb dX6_lack_114 (by decide) ?_
    refine lv_iadd hx hb dX6_lack_115 ?_
    obtain ⟨q116, h⟩ := h
    refine zast hF hSt hH 39 (by decide) rfl (zE_39 _) (x := ((M100.1 39 x4.toNatClampNeg) + (1 : Int32))) q116 dX6_lack_116 (fun H locs hH => ?_)
    refine lv_goto (tgt := 94) hx hb dX6_lack_117 (by decide) ?_
    exact hag94 x2 x3 x4 (zsi M100 39 x4.toNatClampNeg ((M100.1 39 x4.toNatClampNeg) + (1 : Int32))) H locs ls h hH (lv_sub hl [0, 1, 2, 3] rfl)
def pX6_lack_L94 (post : Int32 → zM → Prop) (ag67 : Int32 → Int32 → Int32 → zM → Prop) (x2 : Int32) (x3 : Int32) (x4 : Int32) (M : zM) : Prop :=
  ∃ I : Nat → Int32 → Int32 → Int32 → zM → Prop, (∃ n, I n x2 x3 x4 M) ∧ ∀ n x2 x3 x4 M, I n x2 x3 x4 M → pX6_lack_b94 post ag67 (fun x2 x3 x4 M => ∃ k, k < n ∧ I k x2 x3 x4 M) x2 x3 x4 M
set_option maxHeartbeats 4000000 in
theorem wX6_lack_L94 {post : Int32 → zM → Prop} {ag67 : Int32 → Int32 → Int32 → zM → Prop} (hF : CallFix p m c cX6_lack 5 s args wsX6_lack RX6) (hSt : zSt G s) (hret : zRi p l e ({ frames := 4, cells := 0, slots := 0, locals := 98 } : Room) s m args below meth c Q cX6_lack G false O post) (hag67 : ∀ (x2 : Int32) (x3 : Int32) (x4 : Int32) (M : zM) (H : Heap) (locs : List Loc) (ls : Array Slot), ag67 x2 x3 x4 M → zH G false s H locs M O → lv_has ls 5 [(0, .ref (G.1 21)), (2, .int x2), (3, .int x3), (4, .int x4)] → W p l e ({ frames := 4, cells := 0, slots := 0, locals := 98 } : Room) s m args below meth c H locs 0 0 Q (F0 m 67 ls [])) (x2 : Int32) (x3 : Int32) (x4 : Int32) (M : zM) (H : Heap) (locs : List Loc) (ls : Array Slot) (hH : zH G false s H locs M O) (hl : lv_has ls 5 [(0, .ref (G.1 21)), (2, .int x2), (3, .int x3), (4, .int x4)]) (h : pX6_lack_L94 post ag67 x2 x3 x4 M) : W p l e ({ frames := 4, cells := 0, slots := 0, locals := 98 } : Room) s m args below meth c H locs 0 0 Q (F0 m 94 ls []) := by
  obtain ⟨I, ⟨n, hI⟩, hs⟩ := h
  have key : ∀ (n : Nat) (x2 : Int32) (x3 : Int32) (x4 : Int32) (M : zM) (H : Heap) (locs : List Loc) (ls : Array Slot), I n x2 x3 x4 M → zH G false s H locs M O → lv_has ls 5 [(0, .ref (G.1 21)), (2, .int x2), (3, .int x3), (4, .int x4)] → W p l e ({ frames := 4, cells := 0, slots := 0, locals := 98 } : Room) s m args below meth c H locs 0 0 Q (F0 m 94 ls []) := by
    intro n
    induction n using Nat.strongRecOn with
    | _ n ih =>
      intro x2 x3 x4 M H locs ls hI hH hl
      exact wX6_lack_b94 hF hSt hret hag67 (fun x2 x3 x4 M H locs ls h hH hl => by obtain ⟨k, hk, hI⟩ := h; exact ih k hk x2 x3 x4 M H locs ls hI hH hl) x2 x3 x4 M H locs ls hH hl (hs n x2 x3 x4 M hI)
  exact key n x2 x3 x4 M H locs ls hI hH hl
def pX6_lack_b93 (post : Int32 → zM → Prop) (ag67 : Int32 → Int32 → Int32 → zM → Prop) (x2 : Int32) (x3 : Int32) (x4 : Int32) (t0 : Int32) (t1 : Int32) (M : zM) : Prop :=
  vp_in t1 4 ∧ pX6_lack_L94 post ag67 x2 x3 x4 (zsi M 39 t1.toNatClampNeg t0)
set_option maxHeartbeats 4000000 in
set_option maxRecDepth 100000 in
theorem wX6_lack_b93 {post : Int32 → zM → Prop} {ag67 : Int32 → Int32 → Int32 → zM → Prop} (hF : CallFix p m c cX6_lack 5 s args wsX6_lack RX6) (hSt : zSt G s) (hret : zRi p l e ({ frames := 4, cells := 0, slots := 0, locals := 98 } : Room) s m args below meth c Q cX6_lack G false O post) (hag67 : ∀ (x2 : Int32) (x3 : Int32) (x4 : Int32) (M : zM) (H : Heap) (locs : List Loc) (ls : Array Slot), ag67 x2 x3 x4 M → zH G false s H locs M O → lv_has ls 5 [(0, .ref (G.1 21)), (2, .int x2), (3, .int x3), (4, .int x4)] → W p l e ({ frames := 4, cells := 0, slots := 0, locals := 98 } : Room) s m args below meth c H locs 0 0 Q (F0 m 67 ls [])) (x2 : Int32) (x3 : Int32) (x4 : Int32) (t0 : Int32) (t1 : Int32) (M : zM) (H : Heap) (locs : List Loc) (ls : Array Slot) (hH : zH G false s H locs M O) (hl : lv_has ls 5 [(0, .ref (G.1 21)), (2, .int x2), (3, .int x3), (4, .int x4)]) (h : pX6_lack_b93 post ag67 x2 x3 x4 t0 t1 M) : W p l e ({ frames := 4, cells := 0, slots := 0, locals := 98 } : Room) s m args below meth c H locs 0 0 Q (F0 m 93 ls [.int t0, .int t1, .ref (G.1 39)]) := by
  obtain ⟨hx, hb, hml, hown, hts⟩ := id hF
  unfold pX6_lack_b93 at h
  obtain ⟨q93, h⟩ := h
  refine zast hF hSt hH 39 (by decide) rfl (zE_39 _) (x := t0) q93 dX6_lack_93 (fun H locs hH => ?_)
  exact wX6_lack_L94 hF hSt hret hag67 x2 x3 x4 (zsi M 39 t1.toNatClampNeg t0) H locs ls hH (lv_sub hl [0, 1, 2, 3] rfl) h
def pX6_lack_b67 (post : Int32 → zM → Prop) (ag67 : Int32 → Int32 → Int32 → zM → Prop) (x2 : Int32) (x3 : Int32) (x4 : Int32) (M : zM) : Prop :=
  ((M.1 21 3) ≤ x4 → vp_in x3 4 ∧ post (M.1 39 x3.toNatClampNeg) M) ∧ (¬ ((M.1 21 3) ≤ x4) → (¬ (x4 = x2) → pX6_lack_b93 post ag67 x2 x3 x4 (0 : Int32) x4 M) ∧ (x4 = x2 → pX6_lack_b93 post ag67 x2 x3 x4 (1 : Int32) x4 M))
set_option maxHeartbeats 4000000 in
set_option maxRecDepth 100000 in
theorem wX6_lack_b67 {post : Int32 → zM → Prop} {ag67 : Int32 → Int32 → Int32 → zM → Prop} (hF : CallFix p m c cX6_lack 5 s args wsX6_lack RX6) (hSt : zSt G s) (hret : zRi p l e ({ frames := 4, cells := 0, slots := 0, locals := 98 } : Room) s m args below meth c Q cX6_lack G false O post) (hag67 : ∀ (x2 : Int32) (x3 : Int32) (x4 : Int32) (M : zM) (H : Heap) (locs : List Loc) (ls : Array Slot), ag67 x2 x3 x4 M → zH G false s H locs M O → lv_has ls 5 [(0, .ref (G.1 21)), (2, .int x2), (3, .int x3), (4, .int x4)] → W p l e ({ frames := 4, cells := 0, slots := 0, locals := 98 } : Room) s m args below meth c H locs 0 0 Q (F0 m 67 ls [])) (x2 : Int32) (x3 : Int32) (x4 : Int32) (M : zM) (H : Heap) (locs : List Loc) (ls : Array Slot) (hH : zH G false s H locs M O) (hl : lv_has ls 5 [(0, .ref (G.1 21)), (2, .int x2), (3, .int x3), (4, .int x4)]) (h : pX6_lack_b67 post ag67 x2 x3 x4 M) : W p l e ({ frames := 4, cells := 0, slots := 0, locals := 98 } : Room) s m args below meth c H locs 0 0 Q (F0 m 67 ls []) := by
  obtain ⟨hx, hb, hml, hown, hts⟩ := id hF
  unfold pX6_lack_b67 at h
  refine lv_iload hx hb dX6_lack_67 (lv_at hl 3 rfl) ?_
  refine lv_aload_n hx hb dX6_lack_69 rfl (lv_at hl 0 rfl) ?_
  refine zget (v := .int (M.1 21 3)) hF hSt hH 21 (by decide) rfl (zE_21 _ _ _) (C := RX6) (T := TX6) (N := 31) rfl znX6_lack_X6 3 (by decide) (List.mem_of_getElem? (i := 1) rfl) rfl dX6_lack_70 ?_
  refine lv_icmp_ge (tgt := 126) hx hb dX6_lack_73 (by decide) (fun q73 => ?_) (fun q73 => ?_)
  · have h := h.1 q73
    refine lv_aload_n hx hb dX6_lack_126 rfl (lv_at hl 0 rfl) ?_
    refine zget (v := .ref (G.1 39)) hF hSt hH 21 (by decide) rfl (zE_21 _ _ _) (C := RX6) (T := TX6) (N := 31) rfl znX6_lack_X6 24 (by decide) (List.mem_of_getElem? (i := 2) rfl) rfl dX6_lack_127 ?_
    refine lv_iload_n hx hb dX6_lack_130 rfl (lv_at hl 2 rfl) ?_
    obtain ⟨q131, h⟩ := h
    refine zald hF hSt hH 39 (by decide) rfl (zE_39 _ _ _) q131 dX6_lack_131 ?_
    exact hret _ _ _ _ _ _ dX6_lack_132 h hH
  · have h := h.2 q73
    refine lv_aload_n hx hb dX6_lack_76 rfl (lv_at hl 0 rfl) ?_
    refine zget (v := .ref (G.1 39)) hF hSt hH 21 (by decide) rfl (zE_21 _ _ _) (C := RX6) (T := TX6) (N := 31) rfl znX6_lack_X6 24 (by decide) (List.mem_of_getElem? (i := 2) rfl) rfl dX6_lack_77 ?_
    refine lv_iload hx hb dX6_lack_80 (lv_at hl 3 rfl) ?_
    refine lv_iload hx hb dX6_lack_82 (lv_at hl 3 rfl) ?_
    refine lv_iload_n hx hb dX6_lack_84 rfl (lv_at hl 1 rfl) ?_
    refine lv_icmp_ne (tgt := 92) hx hb dX6_lack_85 (by decide) (fun q85 => ?_) (fun q85 => ?_)
    · have h := h.1 q85
      refine lv_iconst (v := (0 : Int32)) hx hb dX6_lack_92 (by decide) ?_
      exact wX6_lack_b93 hF hSt hret hag67 x2 x3 x4 (0 : Int32) x4 M H locs ls hH (lv_sub hl [0, 1, 2, 3] rfl) h
    · have h := h.2 q85
      refine lv_iconst (v := (1 : Int32)) hx hb dX6_lack_88 (by decide) ?_
      refine lv_goto (tgt := 93) hx hb dX6_lack_89 (by decide) ?_
      exact wX6_lack_b93 hF hSt hret hag67 x2 x3 x4 (1 : Int32) x4 M H locs ls hH (lv_sub hl [0, 1, 2, 3] rfl) h
def pX6_lack_L67 (post : Int32 → zM → Prop) (x2 : Int32) (x3 : Int32) (x4 : Int32) (M : zM) : Prop :=
  ∃ I : Nat → Int32 → Int32 → Int32 → zM → Prop, (∃ n, I n x2 x3 x4 M) ∧ ∀ n x2 x3 x4 M, I n x2 x3 x4 M → pX6_lack_b67 post (fun x2 x3 x4 M => ∃ k, k < n ∧ I k x2 x3 x4 M) x2 x3 x4 M
set_option maxHeartbeats 4000000 in
theorem wX6_lack_L67 {post : Int32 → zM → Prop}  (hF : CallFix p m c cX6_lack 5 s args wsX6_lack RX6) (hSt : zSt G s) (hret : zRi p l e ({ frames := 4, cells := 0, slots := 0, locals := 98 } : Room) s m args below meth c Q cX6_lack G false O post) (x2 : Int32) (x3 : Int32) (x4 : Int32) (M : zM) (H : Heap) (locs : List Loc) (ls : Array Slot) (hH : zH G false s H locs M O) (hl : lv_has ls 5 [(0, .ref (G.1 21)), (2, .int x2), (3, .int x3), (4, .int x4)]) (h : pX6_lack_L67 post x2 x3 x4 M) : W p l e ({ frames := 4, cells := 0, slots := 0, locals := 98 } : Room) s m args below meth c H locs 0 0 Q (F0 m 67 ls []) := by
  obtain ⟨I, ⟨n, hI⟩, hs⟩ := h
  have key : ∀ (n : Nat) (x2 : Int32) (x3 : Int32) (x4 : Int32) (M : zM) (H : Heap) (locs : List Loc) (ls : Array Slot), I n x2 x3 x4 M → zH G false s H locs M O → lv_has ls 5 [(0, .ref (G.1 21)), (2, .int x2), (3, .int x3), (4, .int x4)] → W p l e ({ frames := 4, cells := 0, slots := 0, locals := 98 } : Room) s m args below meth c H locs 0 0 Q (F0 m 67 ls []) := by
    intro n
    induction n using Nat.strongRecOn with
    | _ n ih =>
      intro x2 x3 x4 M H locs ls hI hH hl
      exact wX6_lack_b67 hF hSt hret (fun x2 x3 x4 M H locs ls h hH hl => by obtain ⟨k, hk, hI⟩ := h; exact ih k hk x2 x3 x4 M H locs ls hI hH hl) x2 x3 x4 M H locs ls hH hl (hs n x2 x3 x4 M hI)
  exact key n x2 x3 x4 M H locs ls hI hH hl
def pX6_lack (M : zM) (x1 : Int32) (x2 : Int32) (x3 : Int32) (post : Int32 → zM → Prop) : Prop :=
  pX6_isRelay M x1 (fun r2 => (r2 = 0 → pX6_lack_b36 post M) ∧ (¬ (r2 = 0) → pX6_in x2 (0 : Int32) ((M.1 21 3) - (1 : Int32)) (fun r16 => (r16 = 0 → pX6_lack_b36 post M) ∧ (¬ (r16 = 0) → pX6_in x3 (0 : Int32) ((M.1 21 3) - (1 : Int32)) (fun r30 => (¬ (r30 = 0) → (¬ (x1 = 0) → pX6_work M  (fun M46 => pX6_study M46 x1 (fun M51 => pX6_solvesFor M51 x2 (fun r56 M56 => (r56 = 0 → pX6_lack_L67 post x2 x3 (0 : Int32) M56) ∧ (¬ (r56 = 0) → post (-1 : Int32) M56))))) ∧ (x1 = 0 → post (-2 : Int32) M)) ∧ (r30 = 0 → pX6_lack_b36 post M))))))
set_option maxHeartbeats 4000000 in
set_option maxRecDepth 100000 in
theorem wX6_lack {M : zM} {post : Int32 → zM → Prop} (hF : CallFix p m c cX6_lack 5 s args wsX6_lack RX6) (hSt : zSt G s) (hret : zRi p l e ({ frames := 4, cells := 0, slots := 0, locals := 98 } : Room) s m args below meth c Q cX6_lack G false O post) (x1 : Int32) (x2 : Int32) (x3 : Int32) (H : Heap) (locs : List Loc) (ls : Array Slot) (hH : zH G false s H locs M O) (hl : lv_has ls 5 [(0, .ref (G.1 21)), (1, .int x1), (2, .int x2), (3, .int x3)]) (h : pX6_lack M x1 x2 x3 post) : W p l e ({ frames := 4, cells := 0, slots := 0, locals := 98 } : Room) s m args below meth c H locs 0 0 Q (F0 m 0 ls []) := by
  obtain ⟨hx, hb, hml, hown, hts⟩ := id hF
  unfold pX6_lack at h
  refine lv_aload_n hx hb dX6_lack_0 rfl (lv_at hl 0 rfl) ?_
  refine lv_iload_n hx hb dX6_lack_1 rfl (lv_at hl 1 rfl) ?_
  refine zcalliP hH (va_runV (As := [.int x1]) (rest := []) hF (kX6_isRelay l G M O x1 _ h) (cwV 1 hts gX6_lack_X6_isRelay rfl rfl rfl ⟨rfl, zdX6_isRelay⟩ ⟨Nat.le_of_ble_eq_true rfl, Nat.le_of_ble_eq_true rfl⟩) (zpreV hSt hH 21 (by decide) rfl (zE_21 _ _ _) (q := (RX6, TX6, 31)) rfl [.int x1]) rfl rfl hl.1 rfl (lv_room (Nat.le_of_ble_eq_true rfl)) dX6_lack_2 ⟨Nat.zero_le _, Nat.zero_le _⟩) (fun r2 H locs h hH => ?_)
  refine lv_if_eq (tgt := 36) hx hb dX6_lack_5 (by decide) (fun q5 => ?_) (fun q5 => ?_)
  · have h := h.1 q5
    exact wX6_lack_b36 hF hSt hret M H locs ls hH (lv_sub hl [] rfl) h
  · have h := h.2 q5
    refine lv_iload_n hx hb dX6_lack_8 rfl (lv_at hl 2 rfl) ?_
    refine lv_iconst (v := (0 : Int32)) hx hb dX6_lack_9 (by decide) ?_
    refine lv_aload_n hx hb dX6_lack_10 rfl (lv_at hl 0 rfl) ?_
    refine zget (v := .int (M.1 21 3)) hF hSt hH 21 (by decide) rfl (zE_21 _ _ _) (C := RX6) (T := TX6) (N := 31) rfl znX6_lack_X6 3 (by decide) (List.mem_of_getElem? (i := 1) rfl) rfl dX6_lack_11 ?_
    refine lv_iconst (v := (1 : Int32)) hx hb dX6_lack_14 (by decide) ?_
    refine lv_isub hx hb dX6_lack_15 ?_
    refine zcalliP hH (va_runS (As := [.int x2, .int (0 : Int32), .int ((M.1 21 3) - (1 : Int32))]) (rest := []) hF (kX6_in l G M O x2 (0 : Int32) ((M.1 21 3) - (1 : Int32)) _ h) (va_cwS 3 hts gX6_lack_X6_in rfl rfl rfl zdX6_in ⟨Nat.le_of_ble_eq_true rfl, Nat.le_of_ble_eq_true rfl⟩) (zpreS hSt hH [.int x2, .int (0 : Int32), .int ((M.1 21 3) - (1 : Int32))]) rfl rfl hl.1 rfl (lv_room (Nat.le_of_ble_eq_true rfl)) dX6_lack_16 ⟨Nat.zero_le _, Nat.zero_le _⟩) (fun r16 H locs h hH => ?_)
    refine lv_if_eq (tgt := 36) hx hb dX6_lack_19 (by decide) (fun q19 => ?_) (fun q19 => ?_)
    · have h := h.1 q19
      exact wX6_lack_b36 hF hSt hret M H locs ls hH (lv_sub hl [] rfl) h
    · have h := h.2 q19
      refine lv_iload_n hx hb dX6_lack_22 rfl (lv_at hl 3 rfl) ?_
      refine lv_iconst (v := (0 : Int32)) hx hb dX6_lack_23 (by decide) ?_
      refine lv_aload_n hx hb dX6_lack_24 rfl (lv_at hl 0 rfl) ?_
      refine zget (v := .int (M.1 21 3)) hF hSt hH 21 (by decide) rfl (zE_21 _ _ _) (C := RX6) (T := TX6) (N := 31) rfl znX6_lack_X6 3 (by decide) (List.mem_of_getElem? (i := 1) rfl) rfl dX6_lack_25 ?_
      refine lv_iconst (v := (1 : Int32)) hx hb dX6_lack_28 (by decide) ?_
      refine lv_isub hx hb dX6_lack_29 ?_
      refine zcalliP hH (va_runS (As := [.int x3, .int (0 : Int32), .int ((M.1 21 3) - (1 : Int32))]) (rest := []) hF (kX6_in l G M O x3 (0 : Int32) ((M.1 21 3) - (1 : Int32)) _ h) (va_cwS 3 hts gX6_lack_X6_in rfl rfl rfl zdX6_in ⟨Nat.le_of_ble_eq_true rfl, Nat.le_of_ble_eq_true rfl⟩) (zpreS hSt hH [.int x3, .int (0 : Int32), .int ((M.1 21 3) - (1 : Int32))]) rfl rfl hl.1 rfl (lv_room (Nat.le_of_ble_eq_true rfl)) dX6_lack_30 ⟨Nat.zero_le _, Nat.zero_le _⟩) (fun r30 H locs h hH => ?_)
      refine lv_if_ne (tgt := 38) hx hb dX6_lack_33 (by decide) (fun q33 => ?_) (fun q33 => ?_)
      · have h := h.1 q33
        refine lv_iload_n hx hb dX6_lack_38 rfl (lv_at hl 1 rfl) ?_
        refine lv_if_ne (tgt := 45) hx hb dX6_lack_39 (by decide) (fun q39 => ?_) (fun q39 => ?_)
        · have h := h.1 q39
          refine lv_aload_n hx hb dX6_lack_45 rfl (lv_at hl 0 rfl) ?_
          refine zcallv hH (va_runV (As := []) (rest := []) hF (kX6_work l G M O _ h) (cwV 0 hts gX6_lack_X6_work rfl rfl rfl ⟨rfl, zdX6_work⟩ ⟨Nat.le_of_ble_eq_true rfl, Nat.le_of_ble_eq_true rfl⟩) (zpreV hSt hH 21 (by decide) rfl (zE_21 _ _ _) (q := (RX6, TX6, 31)) rfl []) rfl rfl hl.1 rfl (lv_room (Nat.le_of_ble_eq_true rfl)) dX6_lack_46 ⟨Nat.zero_le _, Nat.zero_le _⟩) (fun M46 H locs h hH => ?_)
          refine lv_aload_n hx hb dX6_lack_49 rfl (lv_at hl 0 rfl) ?_
          refine lv_iload_n hx hb dX6_lack_50 rfl (lv_at hl 1 rfl) ?_
          refine zcallv hH (va_runV (As := [.int x1]) (rest := []) hF (kX6_study l G M46 O x1 _ h) (cwV 1 hts gX6_lack_X6_study rfl rfl rfl ⟨rfl, zdX6_study⟩ ⟨Nat.le_of_ble_eq_true rfl, Nat.le_of_ble_eq_true rfl⟩) (zpreV hSt hH 21 (by decide) rfl (zE_21 _ _ _) (q := (RX6, TX6, 31)) rfl [.int x1]) rfl rfl hl.1 rfl (lv_room (Nat.le_of_ble_eq_true rfl)) dX6_lack_51 ⟨Nat.zero_le _, Nat.zero_le _⟩) (fun M51 H locs h hH => ?_)
          refine lv_aload_n hx hb dX6_lack_54 rfl (lv_at hl 0 rfl) ?_
          refine lv_iload_n hx hb dX6_lack_55 rfl (lv_at hl 2 rfl) ?_
          refine zcalli hH (va_runV (As := [.int x2]) (rest := []) hF (kX6_solvesFor l G M51 O x2 _ h) (cwV 1 hts gX6_lack_X6_solvesFor rfl rfl rfl ⟨rfl, zdX6_solvesFor⟩ ⟨Nat.le_of_ble_eq_true rfl, Nat.le_of_ble_eq_true rfl⟩) (zpreV hSt hH 21 (by decide) rfl (zE_21 _ _ _) (q := (RX6, TX6, 31)) rfl [.int x2]) rfl rfl hl.1 rfl (lv_room (Nat.le_of_ble_eq_true rfl)) dX6_lack_56 ⟨Nat.zero_le _, Nat.zero_le _⟩) (fun r56 M56 H locs h hH => ?_)
          refine lv_if_eq (tgt := 64) hx hb dX6_lack_59 (by decide) (fun q59 => ?_) (fun q59 => ?_)
          · have h := h.1 q59
            refine lv_iconst (v := (0 : Int32)) hx hb dX6_lack_64 (by decide) ?_
            refine lv_istore (lv' := [(4, .int (0 : Int32)), (0, .ref (G.1 21)), (1, .int x1), (2, .int x2), (3, .int x3)]) hx hb dX6_lack_65 hl (by decide) rfl (fun ls hl => ?_)
            exact wX6_lack_L67 hF hSt hret x2 x3 (0 : Int32) M56 H locs ls hH (lv_sub hl [1, 3, 4, 0] rfl) h
          · have h := h.2 q59
            refine lv_iconst (v := (-1 : Int32)) hx hb dX6_lack_62 (by decide) ?_
            exact hret _ _ _ _ _ _ dX6_lack_63 h hH
        · have h := h.2 q39
          refine lv_bipush (v := (-2 : Int32)) hx hb dX6_lack_42 (by decide) ?_
          exact hret _ _ _ _ _ _ dX6_lack_44 h hH
      · have h := h.2 q33
        exact wX6_lack_b36 hF hSt hret M H locs ls hH (lv_sub hl [] rfl) h
set_option maxRecDepth 100000 in
theorem kX6_lack (l : Launch) (G : zG) (M O : zM) (x1 : Int32) (x2 : Int32) (x3 : Int32) (post : Int32 → zM → Prop) (h : pX6_lack M x1 x2 x3 post) : Met l yX6_lack wsX6_lack ({ frames := 4, cells := 0, slots := 0, locals := 98 } : Room) (zPc G false M O [.ref (G.1 21), .int x1, .int x2, .int x3]) (va_Qi post (zB G false O) (zAA G)) 0 0 (zAA G) :=
  zmet_i (by decide) rfl (Nat.le_of_ble_eq_true rfl) (fun hF hSt hret H locs ls hH hl => wX6_lack hF hSt hret x1 x2 x3 H locs ls hH hl h)
end
theorem znX6_wrong_X6 : ∀ w ∈ wsX60, w ∈ wsX6_wrong := fun _ h => List.mem_cons_of_mem _ (List.mem_append_right _ h)
theorem zdX6_wrong : yX6_wrong.cls ≠ "java/lang/invoke/MethodHandle" ∧ yX6_wrong.cls ≠ "java/lang/invoke/VarHandle" ∧ (parseMethodDescriptor yX6_wrong.desc).map (fun d => d.parameters.length) = some 0 := by decide +kernel
-- MixingRelaysModel wrong()I
section
variable {p : Program} {l : Launch} {e : Env} {s : State} {m : MethodId} {args : Array Value} {below : List Frame} {meth : Method} {c : Code} {Q : State → Prop} {G : zG} {O : zM}
def pX6_wrong_b101 (post : Int32 → zM → Prop) (ag8 : Int32 → Int32 → zM → Prop) (x1 : Int32) (x2 : Int32) (M : zM) : Prop :=
  ag8 x1 (x2 + (1 : Int32)) M
set_option maxHeartbeats 4000000 in
set_option maxRecDepth 100000 in
theorem wX6_wrong_b101 {post : Int32 → zM → Prop} {ag8 : Int32 → Int32 → zM → Prop} (hF : CallFix p m c cX6_wrong 5 s args wsX6_wrong RX6) (hSt : zSt G s) (hret : zRi p l e ({ frames := 4, cells := 0, slots := 0, locals := 97 } : Room) s m args below meth c Q cX6_wrong G false O post) (hag8 : ∀ (x1 : Int32) (x2 : Int32) (M : zM) (H : Heap) (locs : List Loc) (ls : Array Slot), ag8 x1 x2 M → zH G false s H locs M O → lv_has ls 5 [(0, .ref (G.1 21)), (1, .int x1), (2, .int x2)] → W p l e ({ frames := 4, cells := 0, slots := 0, locals := 97 } : Room) s m args below meth c H locs 0 0 Q (F0 m 8 ls [])) (x1 : Int32) (x2 : Int32) (M : zM) (H : Heap) (locs : List Loc) (ls : Array Slot) (hH : zH G false s H locs M O) (hl : lv_has ls 5 [(0, .ref (G.1 21)), (1, .int x1), (2, .int x2)]) (h : pX6_wrong_b101 post ag8 x1 x2 M) : W p l e ({ frames := 4, cells := 0, slots := 0, locals := 97 } : Room) s m args below meth c H locs 0 0 Q (F0 m 101 ls []) := by
  obtain ⟨hx, hb, hml, hown, hts⟩ := id hF
  unfold pX6_wrong_b101 at h
  refine lv_iinc (v := (x2 + (1 : Int32))) (lv' := [(2, .int (x2 + (1 : Int32))), (0, .ref (G.1 21)), (1, .int x1)]) hx hb dX6_wrong_101 hl (k := 2) rfl rfl (by decide) rfl (fun ls hl => ?_)
  refine lv_goto (tgt := 8) hx hb dX6_wrong_104 (by decide) ?_
  exact hag8 x1 (x2 + (1 : Int32)) M H locs ls h hH (lv_sub hl [1, 2, 0] rfl)
def pX6_wrong_b99 (post : Int32 → zM → Prop) (ag8 : Int32 → Int32 → zM → Prop) (x2 : Int32) (t0 : Int32) (t1 : Int32) (M : zM) : Prop :=
  pX6_wrong_b101 post ag8 (t1 + t0) x2 M
set_option maxHeartbeats 4000000 in
set_option maxRecDepth 100000 in
theorem wX6_wrong_b99 {post : Int32 → zM → Prop} {ag8 : Int32 → Int32 → zM → Prop} (hF : CallFix p m c cX6_wrong 5 s args wsX6_wrong RX6) (hSt : zSt G s) (hret : zRi p l e ({ frames := 4, cells := 0, slots := 0, locals := 97 } : Room) s m args below meth c Q cX6_wrong G false O post) (hag8 : ∀ (x1 : Int32) (x2 : Int32) (M : zM) (H : Heap) (locs : List Loc) (ls : Array Slot), ag8 x1 x2 M → zH G false s H locs M O → lv_has ls 5 [(0, .ref (G.1 21)), (1, .int x1), (2, .int x2)] → W p l e ({ frames := 4, cells := 0, slots := 0, locals := 97 } : Room) s m args below meth c H locs 0 0 Q (F0 m 8 ls [])) (x2 : Int32) (t0 : Int32) (t1 : Int32) (M : zM) (H : Heap) (locs : List Loc) (ls : Array Slot) (hH : zH G false s H locs M O) (hl : lv_has ls 5 [(0, .ref (G.1 21)), (2, .int x2)]) (h : pX6_wrong_b99 post ag8 x2 t0 t1 M) : W p l e ({ frames := 4, cells := 0, slots := 0, locals := 97 } : Room) s m args below meth c H locs 0 0 Q (F0 m 99 ls [.int t0, .int t1]) := by
  obtain ⟨hx, hb, hml, hown, hts⟩ := id hF
  unfold pX6_wrong_b99 at h
  refine lv_iadd hx hb dX6_wrong_99 ?_
  refine lv_istore_n (lv' := [(1, .int (t1 + t0)), (0, .ref (G.1 21)), (2, .int x2)]) hx hb dX6_wrong_100 rfl hl (by decide) rfl (fun ls hl => ?_)
  exact wX6_wrong_b101 hF hSt hret hag8 (t1 + t0) x2 M H locs ls hH (lv_sub hl [1, 0, 2] rfl) h
def pX6_wrong_b82 (post : Int32 → zM → Prop) (ag8 : Int32 → Int32 → zM → Prop) (ag38 : Int32 → Int32 → Int32 → Int32 → zM → Prop) (x1 : Int32) (x2 : Int32) (x4 : Int32) (t0 : Int32) (M : zM) : Prop :=
  ag38 x1 x2 t0 (x4 + (1 : Int32)) M
set_option maxHeartbeats 4000000 in
set_option maxRecDepth 100000 in
theorem wX6_wrong_b82 {post : Int32 → zM → Prop} {ag8 : Int32 → Int32 → zM → Prop} {ag38 : Int32 → Int32 → Int32 → Int32 → zM → Prop} (hF : CallFix p m c cX6_wrong 5 s args wsX6_wrong RX6) (hSt : zSt G s) (hret : zRi p l e ({ frames := 4, cells := 0, slots := 0, locals := 97 } : Room) s m args below meth c Q cX6_wrong G false O post) (hag8 : ∀ (x1 : Int32) (x2 : Int32) (M : zM) (H : Heap) (locs : List Loc) (ls : Array Slot), ag8 x1 x2 M → zH G false s H locs M O → lv_has ls 5 [(0, .ref (G.1 21)), (1, .int x1), (2, .int x2)] → W p l e ({ frames := 4, cells := 0, slots := 0, locals := 97 } : Room) s m args below meth c H locs 0 0 Q (F0 m 8 ls [])) (hag38 : ∀ (x1 : Int32) (x2 : Int32) (x3 : Int32) (x4 : Int32) (M : zM) (H : Heap) (locs : List Loc) (ls : Array Slot), ag38 x1 x2 x3 x4 M → zH G false s H locs M O → lv_has ls 5 [(0, .ref (G.1 21)), (1, .int x1), (2, .int x2), (3, .int x3), (4, .int x4)] → W p l e ({ frames := 4, cells := 0, slots := 0, locals := 97 } : Room) s m args below meth c H locs 0 0 Q (F0 m 38 ls [])) (x1 : Int32) (x2 : Int32) (x4 : Int32) (t0 : Int32) (M : zM) (H : Heap) (locs : List Loc) (ls : Array Slot) (hH : zH G false s H locs M O) (hl : lv_has ls 5 [(0, .ref (G.1 21)), (1, .int x1), (2, .int x2), (4, .int x4)]) (h : pX6_wrong_b82 post ag8 ag38 x1 x2 x4 t0 M) : W p l e ({ frames := 4, cells := 0, slots := 0, locals := 97 } : Room) s m args below meth c H locs 0 0 Q (F0 m 82 ls [.int t0]) := by
  obtain ⟨hx, hb, hml, hown, hts⟩ := id hF
  unfold pX6_wrong_b82 at h
  refine lv_istore_n (lv' := [(3, .int t0), (0, .ref (G.1 21)), (1, .int x1), (2, .int x2), (4, .int x4)]) hx hb dX6_wrong_82 rfl hl (by decide) rfl (fun ls hl => ?_)
  refine lv_iinc (v := (x4 + (1 : Int32))) (lv' := [(4, .int (x4 + (1 : Int32))), (3, .int t0), (0, .ref (G.1 21)), (1, .int x1), (2, .int x2)]) hx hb dX6_wrong_83 hl (k := 4) rfl rfl (by decide) rfl (fun ls hl => ?_)
  refine lv_goto (tgt := 38) hx hb dX6_wrong_86 (by decide) ?_
  exact hag38 x1 x2 t0 (x4 + (1 : Int32)) M H locs ls h hH (lv_sub hl [2, 3, 4, 1, 0] rfl)
def pX6_wrong_b77 (post : Int32 → zM → Prop) (ag8 : Int32 → Int32 → zM → Prop) (ag38 : Int32 → Int32 → Int32 → Int32 → zM → Prop) (x1 : Int32) (x2 : Int32) (x4 : Int32) (M : zM) : Prop :=
  pX6_wrong_b82 post ag8 ag38 x1 x2 x4 (1 : Int32) M
set_option maxHeartbeats 4000000 in
set_option maxRecDepth 100000 in
theorem wX6_wrong_b77 {post : Int32 → zM → Prop} {ag8 : Int32 → Int32 → zM → Prop} {ag38 : Int32 → Int32 → Int32 → Int32 → zM → Prop} (hF : CallFix p m c cX6_wrong 5 s args wsX6_wrong RX6) (hSt : zSt G s) (hret : zRi p l e ({ frames := 4, cells := 0, slots := 0, locals := 97 } : Room) s m args below meth c Q cX6_wrong G false O post) (hag8 : ∀ (x1 : Int32) (x2 : Int32) (M : zM) (H : Heap) (locs : List Loc) (ls : Array Slot), ag8 x1 x2 M → zH G false s H locs M O → lv_has ls 5 [(0, .ref (G.1 21)), (1, .int x1), (2, .int x2)] → W p l e ({ frames := 4, cells := 0, slots := 0, locals := 97 } : Room) s m args below meth c H locs 0 0 Q (F0 m 8 ls [])) (hag38 : ∀ (x1 : Int32) (x2 : Int32) (x3 : Int32) (x4 : Int32) (M : zM) (H : Heap) (locs : List Loc) (ls : Array Slot), ag38 x1 x2 x3 x4 M → zH G false s H locs M O → lv_has ls 5 [(0, .ref (G.1 21)), (1, .int x1), (2, .int x2), (3, .int x3), (4, .int x4)] → W p l e ({ frames := 4, cells := 0, slots := 0, locals := 97 } : Room) s m args below meth c H locs 0 0 Q (F0 m 38 ls [])) (x1 : Int32) (x2 : Int32) (x4 : Int32) (M : zM) (H : Heap) (locs : List Loc) (ls : Array Slot) (hH : zH G false s H locs M O) (hl : lv_has ls 5 [(0, .ref (G.1 21)), (1, .int x1), (2, .int x2), (4, .int x4)]) (h : pX6_wrong_b77 post ag8 ag38 x1 x2 x4 M) : W p l e ({ frames := 4, cells := 0, slots := 0, locals := 97 } : Room) s m args below meth c H locs 0 0 Q (F0 m 77 ls []) := by
  obtain ⟨hx, hb, hml, hown, hts⟩ := id hF
  unfold pX6_wrong_b77 at h
  refine lv_iconst (v := (1 : Int32)) hx hb dX6_wrong_77 (by decide) ?_
  refine lv_goto (tgt := 82) hx hb dX6_wrong_78 (by decide) ?_
  exact wX6_wrong_b82 hF hSt hret hag8 hag38 x1 x2 x4 (1 : Int32) M H locs ls hH (lv_sub hl [0, 1, 2, 3] rfl) h
def pX6_wrong_b81 (post : Int32 → zM → Prop) (ag8 : Int32 → Int32 → zM → Prop) (ag38 : Int32 → Int32 → Int32 → Int32 → zM → Prop) (x1 : Int32) (x2 : Int32) (x4 : Int32) (M : zM) : Prop :=
  pX6_wrong_b82 post ag8 ag38 x1 x2 x4 (0 : Int32) M
set_option maxHeartbeats 4000000 in
set_option maxRecDepth 100000 in
theorem wX6_wrong_b81 {post : Int32 → zM → Prop} {ag8 : Int32 → Int32 → zM → Prop} {ag38 : Int32 → Int32 → Int32 → Int32 → zM → Prop} (hF : CallFix p m c cX6_wrong 5 s args wsX6_wrong RX6) (hSt : zSt G s) (hret : zRi p l e ({ frames := 4, cells := 0, slots := 0, locals := 97 } : Room) s m args below meth c Q cX6_wrong G false O post) (hag8 : ∀ (x1 : Int32) (x2 : Int32) (M : zM) (H : Heap) (locs : List Loc) (ls : Array Slot), ag8 x1 x2 M → zH G false s H locs M O → lv_has ls 5 [(0, .ref (G.1 21)), (1, .int x1), (2, .int x2)] → W p l e ({ frames := 4, cells := 0, slots := 0, locals := 97 } : Room) s m args below meth c H locs 0 0 Q (F0 m 8 ls [])) (hag38 : ∀ (x1 : Int32) (x2 : Int32) (x3 : Int32) (x4 : Int32) (M : zM) (H : Heap) (locs : List Loc) (ls : Array Slot), ag38 x1 x2 x3 x4 M → zH G false s H locs M O → lv_has ls 5 [(0, .ref (G.1 21)), (1, .int x1), (2, .int x2), (3, .int x3), (4, .int x4)] → W p l e ({ frames := 4, cells := 0, slots := 0, locals := 97 } : Room) s m args below meth c H locs 0 0 Q (F0 m 38 ls [])) (x1 : Int32) (x2 : Int32) (x4 : Int32) (M : zM) (H : Heap) (locs : List Loc) (ls : Array Slot) (hH : zH G false s H locs M O) (hl : lv_has ls 5 [(0, .ref (G.1 21)), (1, .int x1), (2, .int x2), (4, .int x4)]) (h : pX6_wrong_b81 post ag8 ag38 x1 x2 x4 M) : W p l e ({ frames := 4, cells := 0, slots := 0, locals := 97 } : Room) s m args below meth c H locs 0 0 Q (F0 m 81 ls []) := by
  obtain ⟨hx, hb, hml, hown, hts⟩ := id hF
  unfold pX6_wrong_b81 at h
  refine lv_iconst (v := (0 : Int32)) hx hb dX6_wrong_81 (by decide) ?_
  exact wX6_wrong_b82 hF hSt hret hag8 hag38 x1 x2 x4 (0 : Int32) M H locs ls hH (lv_sub hl [0, 1, 2, 3] rfl) h
def pX6_wrong_b38 (post : Int32 → zM → Prop) (ag8 : Int32 → Int32 → zM → Prop) (ag38 : Int32 → Int32 → Int32 → Int32 → zM → Prop) (x1 : Int32) (x2 : Int32) (x3 : Int32) (x4 : Int32) (M : zM) : Prop :=
  ((M.1 21 3) ≤ x4 → (x3 = 0 → pX6_wrong_b99 post ag8 x2 (0 : Int32) x1 M) ∧ (¬ (x3 = 0) → pX6_wrong_b99 post ag8 x2 (1 : Int32) x1 M)) ∧ (¬ ((M.1 21 3) ≤ x4) → (¬ (x3 = 0) → pX6_wrong_b77 post ag8 ag38 x1 x2 x4 M) ∧ (x3 = 0 → pX6_solvesFor M x4 (fun r54 M54 => (r54 = 0 → pX6_wrong_b81 post ag8 ag38 x1 x2 x4 M54) ∧ (¬ (r54 = 0) → pX6_getsOf M54 x4 (fun r63 M63 => vp_in x4 4 ∧ ((lg_cmp r63 (M63.2 22 x4.toNatClampNeg)) = 0 → pX6_wrong_b81 post ag8 ag38 x1 x2 x4 M63) ∧ (¬ ((lg_cmp r63 (M63.2 22 x4.toNatClampNeg)) = 0) → pX6_wrong_b77 post ag8 ag38 x1 x2 x4 M63))))))
set_option maxHeartbeats 4000000 in
set_option maxRecDepth 100000 in
theorem wX6_wrong_b38 {post : Int32 → zM → Prop} {ag8 : Int32 → Int32 → zM → Prop} {ag38 : Int32 → Int32 → Int32 → Int32 → zM → Prop} (hF : CallFix p m c cX6_wrong 5 s args wsX6_wrong RX6) (hSt : zSt G s) (hret : zRi p l e ({ frames := 4, cells := 0, slots := 0, locals := 97 } : Room) s m args below meth c Q cX6_wrong G false O post) (hag8 : ∀ (x1 : Int32) (x2 : Int32) (M : zM) (H : Heap) (locs : List Loc) (ls : Array Slot), ag8 x1 x2 M → zH G false s H locs M O → lv_has ls 5 [(0, .ref (G.1 21)), (1, .int x1), (2, .int x2)] → W p l e ({ frames := 4, cells := 0, slots := 0, locals := 97 } : Room) s m args below meth c H locs 0 0 Q (F0 m 8 ls [])) (hag38 : ∀ (x1 : Int32) (x2 : Int32) (x3 : Int32) (x4 : Int32) (M : zM) (H : Heap) (locs : List Loc) (ls : Array Slot), ag38 x1 x2 x3 x4 M → zH G false s H locs M O → lv_has ls 5 [(0, .ref (G.1 21)), (1, .int x1), (2, .int x2), (3, .int x3), (4, .int x4)] → W p l e ({ frames := 4, cells := 0, slots := 0, locals := 97 } : Room) s m args below meth c H locs 0 0 Q (F0 m 38 ls [])) (x1 : Int32) (x2 : Int32) (x3 : Int32) (x4 : Int32) (M : zM) (H : Heap) (locs : List Loc) (ls : Array Slot) (hH : zH G false s H locs M O) (hl : lv_has ls 5 [(0, .ref (G.1 21)), (1, .int x1), (2, .int x2), (3, .int x3), (4, .int x4)]) (h : pX6_wrong_b38 post ag8 ag38 x1 x2 x3 x4 M) : W p l e ({ frames := 4, cells := 0, slots := 0, locals := 97 } : Room) s m args below meth c H locs 0 0 Q (F0 m 38 ls []) := by
  obtain ⟨hx, hb, hml, hown, hts⟩ := id hF
  unfold pX6_wrong_b38 at h
  refine lv_iload hx hb dX6_wrong_38 (lv_at hl 4 rfl) ?_
  refine lv_aload_n hx hb dX6_wrong_40 rfl (lv_at hl 0 rfl) ?_
  refine zget (v := .int (M.1 21 3)) hF hSt hH 21 (by decide) rfl (zE_21 _ _ _) (C := RX6) (T := TX6) (N := 31) rfl znX6_wrong_X6 3 (by decide) (List.mem_of_getElem? (i := 3) rfl) rfl dX6_wrong_41 ?_
  refine lv_icmp_ge (tgt := 89) hx hb dX6_wrong_44 (by decide) (fun q44 => ?_) (fun q44 => ?_)
  · have h := h.1 q44
    refine lv_iload_n hx hb dX6_wrong_89 rfl (lv_at hl 1 rfl) ?_
    refine lv_iload_n hx hb dX6_wrong_90 rfl (lv_at hl 3 rfl) ?_
    refine lv_if_eq (tgt := 98) hx hb dX6_wrong_91 (by decide) (fun q91 => ?_) (fun q91 => ?_)
    · have h := h.1 q91
      refine lv_iconst (v := (0 : Int32)) hx hb dX6_wrong_98 (by decide) ?_
      exact wX6_wrong_b99 hF hSt hret hag8 x2 (0 : Int32) x1 M H locs ls hH (lv_sub hl [0, 2] rfl) h
    · have h := h.2 q91
      refine lv_iconst (v := (1 : Int32)) hx hb dX6_wrong_94 (by decide) ?_
      refine lv_goto (tgt := 99) hx hb dX6_wrong_95 (by decide) ?_
      exact wX6_wrong_b99 hF hSt hret hag8 x2 (1 : Int32) x1 M H locs ls hH (lv_sub hl [0, 2] rfl) h
  · have h := h.2 q44
    refine lv_iload_n hx hb dX6_wrong_47 rfl (lv_at hl 3 rfl) ?_
    refine lv_if_ne (tgt := 77) hx hb dX6_wrong_48 (by decide) (fun q48 => ?_) (fun q48 => ?_)
    · have h := h.1 q48
      exact wX6_wrong_b77 hF hSt hret hag8 hag38 x1 x2 x4 M H locs ls hH (lv_sub hl [0, 1, 2, 4] rfl) h
    · have h := h.2 q48
      refine lv_aload_n hx hb dX6_wrong_51 rfl (lv_at hl 0 rfl) ?_
      refine lv_iload hx hb dX6_wrong_52 (lv_at hl 4 rfl) ?_
      refine zcalli hH (va_runV (As := [.int x4]) (rest := []) hF (kX6_solvesFor l G M O x4 _ h) (cwV 1 hts gX6_wrong_X6_solvesFor rfl rfl rfl ⟨rfl, zdX6_solvesFor⟩ ⟨Nat.le_of_ble_eq_true rfl, Nat.le_of_ble_eq_true rfl⟩) (zpreV hSt hH 21 (by decide) rfl (zE_21 _ _ _) (q := (RX6, TX6, 31)) rfl [.int x4]) rfl rfl hl.1 rfl (lv_room (Nat.le_of_ble_eq_true rfl)) dX6_wrong_54 ⟨Nat.zero_le _, Nat.zero_le _⟩) (fun r54 M54 H locs h hH => ?_)
      refine lv_if_eq (tgt := 81) hx hb dX6_wrong_57 (by decide) (fun q57 => ?_) (fun q57 => ?_)
      · have h := h.1 q57
        exact wX6_wrong_b81 hF hSt hret hag8 hag38 x1 x2 x4 M54 H locs ls hH (lv_sub hl [0, 1, 2, 4] rfl) h
      · have h := h.2 q57
        refine lv_aload_n hx hb dX6_wrong_60 rfl (lv_at hl 0 rfl) ?_
        refine lv_iload hx hb dX6_wrong_61 (lv_at hl 4 rfl) ?_
        refine zcalll hH (va_runV (As := [.int x4]) (rest := []) hF (kX6_getsOf l G M54 O x4 _ h) (cwV 1 hts gX6_wrong_X6_getsOf rfl rfl rfl ⟨rfl, zdX6_getsOf⟩ ⟨Nat.le_of_ble_eq_true rfl, Nat.le_of_ble_eq_true rfl⟩) (zpreV hSt hH 21 (by decide) rfl (zE_21 _ _ _) (q := (RX6, TX6, 31)) rfl [.int x4]) rfl rfl hl.1 rfl (lv_room (Nat.le_of_ble_eq_true rfl)) dX6_wrong_63 ⟨Nat.zero_le _, Nat.zero_le _⟩) (fun r63 M63 H locs h hH => ?_)
        refine lv_aload_n hx hb dX6_wrong_66 rfl (lv_at hl 0 rfl) ?_
        refine zget (v := .ref (G.1 22)) hF hSt hH 21 (by decide) rfl (zE_21 _ _ _) (C := RX6) (T := TX6) (N := 31) rfl znX6_wrong_X6 4 (by decide) (List.mem_of_getElem? (i := 4) rfl) rfl dX6_wrong_67 ?_
        refine lv_iload hx hb dX6_wrong_70 (lv_at hl 4 rfl) ?_
        obtain ⟨q72, h⟩ := h
        refine zlald hF hSt hH 22 (by decide) rfl (zE_22 _ _ _) q72 dX6_wrong_72 ?_
        refine W.lcmp hx hb dX6_wrong_73 ?_
        refine lv_if_eq (tgt := 81) hx hb dX6_wrong_74 (by decide) (fun q74 => ?_) (fun q74 => ?_)
        · have h := h.1 q74
          exact wX6_wrong_b81 hF hSt hret hag8 hag38 x1 x2 x4 M63 H locs ls hH (lv_sub hl [0, 1, 2, 4] rfl) h
        · have h := h.2 q74
          exact wX6_wrong_b77 hF hSt hret hag8 hag38 x1 x2 x4 M63 H locs ls hH (lv_sub hl [0, 1, 2, 4] rfl) h
def pX6_wrong_L38 (post : Int32 → zM → Prop) (ag8 : Int32 → Int32 → zM → Prop) (x1 : Int32) (x2 : Int32) (x3 : Int32) (x4 : Int32) (M : zM) : Prop :=
  ∃ I : Nat → Int32 → Int32 → Int32 → Int32 → zM → Prop, (∃ n, I n x1 x2 x3 x4 M) ∧ ∀ n x1 x2 x3 x4 M, I n x1 x2 x3 x4 M → pX6_wrong_b38 post ag8 (fun x1 x2 x3 x4 M => ∃ k, k < n ∧ I k x1 x2 x3 x4 M) x1 x2 x3 x4 M
set_option maxHeartbeats 4000000 in
theorem wX6_wrong_L38 {post : Int32 → zM → Prop} {ag8 : Int32 → Int32 → zM → Prop} (hF : CallFix p m c cX6_wrong 5 s args wsX6_wrong RX6) (hSt : zSt G s) (hret : zRi p l e ({ frames := 4, cells := 0, slots := 0, locals := 97 } : Room) s m args below meth c Q cX6_wrong G false O post) (hag8 : ∀ (x1 : Int32) (x2 : Int32) (M : zM) (H : Heap) (locs : List Loc) (ls : Array Slot), ag8 x1 x2 M → zH G false s H locs M O → lv_has ls 5 [(0, .ref (G.1 21)), (1, .int x1), (2, .int x2)] → W p l e ({ frames := 4, cells := 0, slots := 0, locals := 97 } : Room) s m args below meth c H locs 0 0 Q (F0 m 8 ls [])) (x1 : Int32) (x2 : Int32) (x3 : Int32) (x4 : Int32) (M : zM) (H : Heap) (locs : List Loc) (ls : Array Slot) (hH : zH G false s H locs M O) (hl : lv_has ls 5 [(0, .ref (G.1 21)), (1, .int x1), (2, .int x2), (3, .int x3), (4, .int x4)]) (h : pX6_wrong_L38 post ag8 x1 x2 x3 x4 M) : W p l e ({ frames := 4, cells := 0, slots := 0, locals := 97 } : Room) s m args below meth c H locs 0 0 Q (F0 m 38 ls []) := by
  obtain ⟨I, ⟨n, hI⟩, hs⟩ := h
  have key : ∀ (n : Nat) (x1 : Int32) (x2 : Int32) (x3 : Int32) (x4 : Int32) (M : zM) (H : Heap) (locs : List Loc) (ls : Array Slot), I n x1 x2 x3 x4 M → zH G false s H locs M O → lv_has ls 5 [(0, .ref (G.1 21)), (1, .int x1), (2, .int x2), (3, .int x3), (4, .int x4)] → W p l e ({ frames := 4, cells := 0, slots := 0, locals := 97 } : Room) s m args below meth c H locs 0 0 Q (F0 m 38 ls []) := by
    intro n
    induction n using Nat.strongRecOn with
    | _ n ih =>
      intro x1 x2 x3 x4 M H locs ls hI hH hl
      exact wX6_wrong_b38 hF hSt hret hag8 (fun x1 x2 x3 x4 M H locs ls h hH hl => by obtain ⟨k, hk, hI⟩ := h; exact ih k hk x1 x2 x3 x4 M H locs ls hI hH hl) x1 x2 x3 x4 M H locs ls hH hl (hs n x1 x2 x3 x4 M hI)
  exact key n x1 x2 x3 x4 M H locs ls hI hH hl
def pX6_wrong_b8 (post : Int32 → zM → Prop) (ag8 : Int32 → Int32 → zM → Prop) (x1 : Int32) (x2 : Int32) (M : zM) : Prop :=
  ((M.1 21 1) ≤ x2 → post x1 M) ∧ (¬ ((M.1 21 1) ≤ x2) → vp_in x2 12 ∧ (¬ ((M.1 23 x2.toNatClampNeg) = 0) → pX6_study M x2 (fun M30 => pX6_wrong_L38 post ag8 x1 x2 (0 : Int32) (0 : Int32) M30)) ∧ ((M.1 23 x2.toNatClampNeg) = 0 → pX6_wrong_b101 post ag8 x1 x2 M))
set_option maxHeartbeats 4000000 in
set_option maxRecDepth 100000 in
theorem wX6_wrong_b8 {post : Int32 → zM → Prop} {ag8 : Int32 → Int32 → zM → Prop} (hF : CallFix p m c cX6_wrong 5 s args wsX6_wrong RX6) (hSt : zSt G s) (hret : zRi p l e ({ frames := 4, cells := 0, slots := 0, locals := 97 } : Room) s m args below meth c Q cX6_wrong G false O post) (hag8 : ∀ (x1 : Int32) (x2 : Int32) (M : zM) (H : Heap) (locs : List Loc) (ls : Array Slot), ag8 x1 x2 M → zH G false s H locs M O → lv_has ls 5 [(0, .ref (G.1 21)), (1, .int x1), (2, .int x2)] → W p l e ({ frames := 4, cells := 0, slots := 0, locals := 97 } : Room) s m args below meth c H locs 0 0 Q (F0 m 8 ls [])) (x1 : Int32) (x2 : Int32) (M : zM) (H : Heap) (locs : List Loc) (ls : Array Slot) (hH : zH G false s H locs M O) (hl : lv_has ls 5 [(0, .ref (G.1 21)), (1, .int x1), (2, .int x2)]) (h : pX6_wrong_b8 post ag8 x1 x2 M) : W p l e ({ frames := 4, cells := 0, slots := 0, locals := 97 } : Room) s m args below meth c H locs 0 0 Q (F0 m 8 ls []) := by
  obtain ⟨hx, hb, hml, hown, hts⟩ := id hF
  unfold pX6_wrong_b8 at h
  refine lv_iload_n hx hb dX6_wrong_8 rfl (lv_at hl 2 rfl) ?_
  refine lv_aload_n hx hb dX6_wrong_9 rfl (lv_at hl 0 rfl) ?_
  refine zget (v := .int (M.1 21 1)) hF hSt hH 21 (by decide) rfl (zE_21 _ _ _) (C := RX6) (T := TX6) (N := 31) rfl znX6_wrong_X6 1 (by decide) (List.mem_of_getElem? (i := 1) rfl) rfl dX6_wrong_10 ?_
  refine lv_icmp_ge (tgt := 107) hx hb dX6_wrong_13 (by decide) (fun q13 => ?_) (fun q13 => ?_)
  · have h := h.1 q13
    refine lv_iload_n hx hb dX6_wrong_107 rfl (lv_at hl 1 rfl) ?_
    exact hret _ _ _ _ _ _ dX6_wrong_108 h hH
  · have h := h.2 q13
    refine lv_aload_n hx hb dX6_wrong_16 rfl (lv_at hl 0 rfl) ?_
    refine zget (v := .ref (G.1 23)) hF hSt hH 21 (by decide) rfl (zE_21 _ _ _) (C := RX6) (T := TX6) (N := 31) rfl znX6_wrong_X6 5 (by decide) (List.mem_of_getElem? (i := 2) rfl) rfl dX6_wrong_17 ?_
    refine lv_iload_n hx hb dX6_wrong_20 rfl (lv_at hl 2 rfl) ?_
    obtain ⟨q21, h⟩ := h
    refine zzald hF hSt hH 23 (by decide) rfl (zE_23 _ _ _) q21 dX6_wrong_21 ?_
    refine lv_if_ne (tgt := 28) hx hb dX6_wrong_22 (by decide) (fun q22 => ?_) (fun q22 => ?_)
    · have h := h.1 q22
      refine lv_aload_n hx hb dX6_wrong_28 rfl (lv_at hl 0 rfl) ?_
      refine lv_iload_n hx hb dX6_wrong_29 rfl (lv_at hl 2 rfl) ?_
      refine zcallv hH (va_runV (As := [.int x2]) (rest := []) hF (kX6_study l G M O x2 _ h) (cwV 1 hts gX6_wrong_X6_study rfl rfl rfl ⟨rfl, zdX6_study⟩ ⟨Nat.le_of_ble_eq_true rfl, Nat.le_of_ble_eq_true rfl⟩) (zpreV hSt hH 21 (by decide) rfl (zE_21 _ _ _) (q := (RX6, TX6, 31)) rfl [.int x2]) rfl rfl hl.1 rfl (lv_room (Nat.le_of_ble_eq_true rfl)) dX6_wrong_30 ⟨Nat.zero_le _, Nat.zero_le _⟩) (fun M30 H locs h hH => ?_)
      refine lv_iconst (v := (0 : Int32)) hx hb dX6_wrong_33 (by decide) ?_
      refine lv_istore_n (lv' := [(3, .int (0 : Int32)), (0, .ref (G.1 21)), (1, .int x1), (2, .int x2)]) hx hb dX6_wrong_34 rfl hl (by decide) rfl (fun ls hl => ?_)
      refine lv_iconst (v := (0 : Int32)) hx hb dX6_wrong_35 (by decide) ?_
      refine lv_istore (lv' := [(4, .int (0 : Int32)), (3, .int (0 : Int32)), (0, .ref (G.1 21)), (1, .int x1), (2, .int x2)]) hx hb dX6_wrong_36 hl (by decide) rfl (fun ls hl => ?_)
      exact wX6_wrong_L38 hF hSt hret hag8 x1 x2 (0 : Int32) (0 : Int32) M30 H locs ls hH (lv_sub hl [2, 3, 4, 1, 0] rfl) h
    · have h := h.2 q22
      refine lv_goto (tgt := 101) hx hb dX6_wrong_25 (by decide) ?_
      exact wX6_wrong_b101 hF hSt hret hag8 x1 x2 M H locs ls hH (lv_sub hl [0, 1, 2] rfl) h
def pX6_wrong_L8 (post : Int32 → zM → Prop) (x1 : Int32) (x2 : Int32) (M : zM) : Prop :=
  ∃ I : Nat → Int32 → Int32 → zM → Prop, (∃ n, I n x1 x2 M) ∧ ∀ n x1 x2 M, I n x1 x2 M → pX6_wrong_b8 post (fun x1 x2 M => ∃ k, k < n ∧ I k x1 x2 M) x1 x2 M
set_option maxHeartbeats 4000000 in
theorem wX6_wrong_L8 {post : Int32 → zM → Prop}  (hF : CallFix p m c cX6_wrong 5 s args wsX6_wrong RX6) (hSt : zSt G s) (hret : zRi p l e ({ frames := 4, cells := 0, slots := 0, locals := 97 } : Room) s m args below meth c Q cX6_wrong G false O post) (x1 : Int32) (x2 : Int32) (M : zM) (H : Heap) (locs : List Loc) (ls : Array Slot) (hH : zH G false s H locs M O) (hl : lv_has ls 5 [(0, .ref (G.1 21)), (1, .int x1), (2, .int x2)]) (h : pX6_wrong_L8 post x1 x2 M) : W p l e ({ frames := 4, cells := 0, slots := 0, locals := 97 } : Room) s m args below meth c H locs 0 0 Q (F0 m 8 ls []) := by
  obtain ⟨I, ⟨n, hI⟩, hs⟩ := h
  have key : ∀ (n : Nat) (x1 : Int32) (x2 : Int32) (M : zM) (H : Heap) (locs : List Loc) (ls : Array Slot), I n x1 x2 M → zH G false s H locs M O → lv_has ls 5 [(0, .ref (G.1 21)), (1, .int x1), (2, .int x2)] → W p l e ({ frames := 4, cells := 0, slots := 0, locals := 97 } : Room) s m args below meth c H locs 0 0 Q (F0 m 8 ls []) := by
    intro n
    induction n using Nat.strongRecOn with
    | _ n ih =>
      intro x1 x2 M H locs ls hI hH hl
      exact wX6_wrong_b8 hF hSt hret (fun x1 x2 M H locs ls h hH hl => by obtain ⟨k, hk, hI⟩ := h; exact ih k hk x1 x2 M H locs ls hI hH hl) x1 x2 M H locs ls hH hl (hs n x1 x2 M hI)
  exact key n x1 x2 M H locs ls hI hH hl
def pX6_wrong (M : zM)  (post : Int32 → zM → Prop) : Prop :=
  pX6_work M  (fun M1 => pX6_wrong_L8 post (0 : Int32) (1 : Int32) M1)
set_option maxHeartbeats 4000000 in
set_option maxRecDepth 100000 in
theorem wX6_wrong {M : zM} {post : Int32 → zM → Prop} (hF : CallFix p m c cX6_wrong 5 s args wsX6_wrong RX6) (hSt : zSt G s) (hret : zRi p l e ({ frames := 4, cells := 0, slots := 0, locals := 97 } : Room) s m args below meth c Q cX6_wrong G false O post)  (H : Heap) (locs : List Loc) (ls : Array Slot) (hH : zH G false s H locs M O) (hl : lv_has ls 5 [(0, .ref (G.1 21))]) (h : pX6_wrong M  post) : W p l e ({ frames := 4, cells := 0, slots := 0, locals := 97 } : Room) s m args below meth c H locs 0 0 Q (F0 m 0 ls []) := by
  obtain ⟨hx, hb, hml, hown, hts⟩ := id hF
  unfold pX6_wrong at h
  refine lv_aload_n hx hb dX6_wrong_0 rfl (lv_at hl 0 rfl) ?_
  refine zcallv hH (va_runV (As := []) (rest := []) hF (kX6_work l G M O _ h) (cwV 0 hts gX6_wrong_X6_work rfl rfl rfl ⟨rfl, zdX6_work⟩ ⟨Nat.le_of_ble_eq_true rfl, Nat.le_of_ble_eq_true rfl⟩) (zpreV hSt hH 21 (by decide) rfl (zE_21 _ _ _) (q := (RX6, TX6, 31)) rfl []) rfl rfl hl.1 rfl (lv_room (Nat.le_of_ble_eq_true rfl)) dX6_wrong_1 ⟨Nat.zero_le _, Nat.zero_le _⟩) (fun M1 H locs h hH => ?_)
  refine lv_iconst (v := (0 : Int32)) hx hb dX6_wrong_4 (by decide) ?_
  refine lv_istore_n (lv' := [(1, .int (0 : Int32)), (0, .ref (G.1 21))]) hx hb dX6_wrong_5 rfl hl (by decide) rfl (fun ls hl => ?_)
  refine lv_iconst (v := (1 : Int32)) hx hb dX6_wrong_6 (by decide) ?_
  refine lv_istore_n (lv' := [(2, .int (1 : Int32)), (1, .int (0 : Int32)), (0, .ref (G.1 21))]) hx hb dX6_wrong_7 rfl hl (by decide) rfl (fun ls hl => ?_)
  exact wX6_wrong_L8 hF hSt hret (0 : Int32) (1 : Int32) M1 H locs ls hH (lv_sub hl [2, 1, 0] rfl) h
set_option maxRecDepth 100000 in
theorem kX6_wrong (l : Launch) (G : zG) (M O : zM)  (post : Int32 → zM → Prop) (h : pX6_wrong M  post) : Met l yX6_wrong wsX6_wrong ({ frames := 4, cells := 0, slots := 0, locals := 97 } : Room) (zPc G false M O [.ref (G.1 21)]) (va_Qi post (zB G false O) (zAA G)) 0 0 (zAA G) :=
  zmet_i (by decide) rfl (Nat.le_of_ble_eq_true rfl) (fun hF hSt hret H locs ls hH hl => wX6_wrong hF hSt hret  H locs ls hH hl h)
end
theorem znX6_hasAll_X6 : ∀ w ∈ wsX60, w ∈ wsX6_hasAll := fun _ h => List.mem_cons_of_mem _ (List.mem_append_right _ h)
theorem zdX6_hasAll : yX6_hasAll.cls ≠ "java/lang/invoke/MethodHandle" ∧ yX6_hasAll.cls ≠ "java/lang/invoke/VarHandle" ∧ (parseMethodDescriptor yX6_hasAll.desc).map (fun d => d.parameters.length) = some 1 := by decide +kernel
-- MixingRelaysModel hasAll(I)Z
section
variable {p : Program} {l : Launch} {e : Env} {s : State} {m : MethodId} {args : Array Value} {below : List Frame} {meth : Method} {c : Code} {Q : State → Prop} {G : zG} {O : zM}
def pX6_hasAll_b7 (post : Int32 → zM → Prop) (ag7 : Int32 → zM → Prop) (x2 : Int32) (M : zM) : Prop :=
  ((M.1 21 3) ≤ x2 → ((1 : Int32) = 0 ∨ (1 : Int32) = 1) ∧ post (1 : Int32) M) ∧ (¬ ((M.1 21 3) ≤ x2) → pX6_solvesFor M x2 (fun r17 M17 => (¬ (r17 = 0) → ag7 (x2 + (1 : Int32)) M17) ∧ (r17 = 0 → ((0 : Int32) = 0 ∨ (0 : Int32) = 1) ∧ post (0 : Int32) M17)))
set_option maxHeartbeats 4000000 in
set_option maxRecDepth 100000 in
theorem wX6_hasAll_b7 {post : Int32 → zM → Prop} {ag7 : Int32 → zM → Prop} (hF : CallFix p m c cX6_hasAll 3 s args wsX6_hasAll RX6) (hSt : zSt G s) (hret : zRz p l e ({ frames := 4, cells := 0, slots := 0, locals := 95 } : Room) s m args below meth c Q cX6_hasAll G false O post) (hag7 : ∀ (x2 : Int32) (M : zM) (H : Heap) (locs : List Loc) (ls : Array Slot), ag7 x2 M → zH G false s H locs M O → lv_has ls 3 [(0, .ref (G.1 21)), (2, .int x2)] → W p l e ({ frames := 4, cells := 0, slots := 0, locals := 95 } : Room) s m args below meth c H locs 0 0 Q (F0 m 7 ls [])) (x2 : Int32) (M : zM) (H : Heap) (locs : List Loc) (ls : Array Slot) (hH : zH G false s H locs M O) (hl : lv_has ls 3 [(0, .ref (G.1 21)), (2, .int x2)]) (h : pX6_hasAll_b7 post ag7 x2 M) : W p l e ({ frames := 4, cells := 0, slots := 0, locals := 95 } : Room) s m args below meth c H locs 0 0 Q (F0 m 7 ls []) := by
  obtain ⟨hx, hb, hml, hown, hts⟩ := id hF
  unfold pX6_hasAll_b7 at h
  refine lv_iload_n hx hb dX6_hasAll_7 rfl (lv_at hl 1 rfl) ?_
  refine lv_aload_n hx hb dX6_hasAll_8 rfl (lv_at hl 0 rfl) ?_
  refine zget (v := .int (M.1 21 3)) hF hSt hH 21 (by decide) rfl (zE_21 _ _ _) (C := RX6) (T := TX6) (N := 31) rfl znX6_hasAll_X6 3 (by decide) (List.mem_of_getElem? (i := 1) rfl) rfl dX6_hasAll_9 ?_
  refine lv_icmp_ge (tgt := 31) hx hb dX6_hasAll_12 (by decide) (fun q12 => ?_) (fun q12 => ?_)
  · have h := h.1 q12
    refine lv_iconst (v := (1 : Int32)) hx hb dX6_hasAll_31 (by decide) ?_
    exact hret _ _ _ _ _ _ dX6_hasAll_32 h hH
  · have h := h.2 q12
    refine lv_aload_n hx hb dX6_hasAll_15 rfl (lv_at hl 0 rfl) ?_
    refine lv_iload_n hx hb dX6_hasAll_16 rfl (lv_at hl 1 rfl) ?_
    refine zcalli hH (va_runV (As := [.int x2]) (rest := []) hF (kX6_solvesFor l G M O x2 _ h) (cwV 1 hts gX6_hasAll_X6_solvesFor rfl rfl rfl ⟨rfl, zdX6_solvesFor⟩ ⟨Nat.le_of_ble_eq_true rfl, Nat.le_of_ble_eq_true rfl⟩) (zpreV hSt hH 21 (by decide) rfl (zE_21 _ _ _) (q := (RX6, TX6, 31)) rfl [.int x2]) rfl rfl hl.1 rfl (lv_room (Nat.le_of_ble_eq_true rfl)) dX6_hasAll_17 ⟨Nat.zero_le _, Nat.zero_le _⟩) (fun r17 M17 H locs h hH => ?_)
    refine lv_if_ne (tgt := 25) hx hb dX6_hasAll_20 (by decide) (fun q20 => ?_) (fun q20 => ?_)
    · have h := h.1 q20
      refine lv_iinc (v := (x2 + (1 : Int32))) (lv' := [(2, .int (x2 + (1 : Int32))), (0, .ref (G.1 21))]) hx hb dX6_hasAll_25 hl (k := 1) rfl rfl (by decide) rfl (fun ls hl => ?_)
      refine lv_goto (tgt := 7) hx hb dX6_hasAll_28 (by decide) ?_
      exact hag7 (x2 + (1 : Int32)) M17 H locs ls h hH (lv_sub hl [1, 0] rfl)
    · have h := h.2 q20
      refine lv_iconst (v := (0 : Int32)) hx hb dX6_hasAll_23 (by decide) ?_
      exact hret _ _ _ _ _ _ dX6_hasAll_24 h hH
def pX6_hasAll_L7 (post : Int32 → zM → Prop) (x2 : Int32) (M : zM) : Prop :=
  ∃ I : Nat → Int32 → zM → Prop, (∃ n, I n x2 M) ∧ ∀ n x2 M, I n x2 M → pX6_hasAll_b7 post (fun x2 M => ∃ k, k < n ∧ I k x2 M) x2 M
set_option maxHeartbeats 4000000 in
theorem wX6_hasAll_L7 {post : Int32 → zM → Prop}  (hF : CallFix p m c cX6_hasAll 3 s args wsX6_hasAll RX6) (hSt : zSt G s) (hret : zRz p l e ({ frames := 4, cells := 0, slots := 0, locals := 95 } : Room) s m args below meth c Q cX6_hasAll G false O post) (x2 : Int32) (M : zM) (H : Heap) (locs : List Loc) (ls : Array Slot) (hH : zH G false s H locs M O) (hl : lv_has ls 3 [(0, .ref (G.1 21)), (2, .int x2)]) (h : pX6_hasAll_L7 post x2 M) : W p l e ({ frames := 4, cells := 0, slots := 0, locals := 95 } : Room) s m args below meth c H locs 0 0 Q (F0 m 7 ls []) := by
  obtain ⟨I, ⟨n, hI⟩, hs⟩ := h
  have key : ∀ (n : Nat) (x2 : Int32) (M : zM) (H : Heap) (locs : List Loc) (ls : Array Slot), I n x2 M → zH G false s H locs M O → lv_has ls 3 [(0, .ref (G.1 21)), (2, .int x2)] → W p l e ({ frames := 4, cells := 0, slots := 0, locals := 95 } : Room) s m args below meth c H locs 0 0 Q (F0 m 7 ls []) := by
    intro n
    induction n using Nat.strongRecOn with
    | _ n ih =>
      intro x2 M H locs ls hI hH hl
      exact wX6_hasAll_b7 hF hSt hret (fun x2 M H locs ls h hH hl => by obtain ⟨k, hk, hI⟩ := h; exact ih k hk x2 M H locs ls hI hH hl) x2 M H locs ls hH hl (hs n x2 M hI)
  exact key n x2 M H locs ls hI hH hl
def pX6_hasAll (M : zM) (x1 : Int32) (post : Int32 → zM → Prop) : Prop :=
  pX6_study M x1 (fun M2 => pX6_hasAll_L7 post (0 : Int32) M2)
set_option maxHeartbeats 4000000 in
set_option maxRecDepth 100000 in
theorem wX6_hasAll {M : zM} {post : Int32 → zM → Prop} (hF : CallFix p m c cX6_hasAll 3 s args wsX6_hasAll RX6) (hSt : zSt G s) (hret : zRz p l e ({ frames := 4, cells := 0, slots := 0, locals := 95 } : Room) s m args below meth c Q cX6_hasAll G false O post) (x1 : Int32) (H : Heap) (locs : List Loc) (ls : Array Slot) (hH : zH G false s H locs M O) (hl : lv_has ls 3 [(0, .ref (G.1 21)), (1, .int x1)]) (h : pX6_hasAll M x1 post) : W p l e ({ frames := 4, cells := 0, slots := 0, locals := 95 } : Room) s m args below meth c H locs 0 0 Q (F0 m 0 ls []) := by
  obtain ⟨hx, hb, hml, hown, hts⟩ := id hF
  unfold pX6_hasAll at h
  refine lv_aload_n hx hb dX6_hasAll_0 rfl (lv_at hl 0 rfl) ?_
  refine lv_iload_n hx hb dX6_hasAll_1 rfl (lv_at hl 1 rfl) ?_
  refine zcallv hH (va_runV (As := [.int x1]) (rest := []) hF (kX6_study l G M O x1 _ h) (cwV 1 hts gX6_hasAll_X6_study rfl rfl rfl ⟨rfl, zdX6_study⟩ ⟨Nat.le_of_ble_eq_true rfl, Nat.le_of_ble_eq_true rfl⟩) (zpreV hSt hH 21 (by decide) rfl (zE_21 _ _ _) (q := (RX6, TX6, 31)) rfl [.int x1]) rfl rfl hl.1 rfl (lv_room (Nat.le_of_ble_eq_true rfl)) dX6_hasAll_2 ⟨Nat.zero_le _, Nat.zero_le _⟩) (fun M2 H locs h hH => ?_)
  refine lv_iconst (v := (0 : Int32)) hx hb dX6_hasAll_5 (by decide) ?_
  refine lv_istore_n (lv' := [(2, .int (0 : Int32)), (0, .ref (G.1 21)), (1, .int x1)]) hx hb dX6_hasAll_6 rfl hl (by decide) rfl (fun ls hl => ?_)
  exact wX6_hasAll_L7 hF hSt hret (0 : Int32) M2 H locs ls hH (lv_sub hl [1, 0] rfl) h
set_option maxRecDepth 100000 in
theorem kX6_hasAll (l : Launch) (G : zG) (M O : zM) (x1 : Int32) (post : Int32 → zM → Prop) (h : pX6_hasAll M x1 post) : Met l yX6_hasAll wsX6_hasAll ({ frames := 4, cells := 0, slots := 0, locals := 95 } : Room) (zPc G false M O [.ref (G.1 21), .int x1]) (va_Qi post (zB G false O) (zAA G)) 0 0 (zAA G) :=
  zmet_z (by decide) rfl (Nat.le_of_ble_eq_true rfl) (fun hF hSt hret H locs ls hH hl => wX6_hasAll hF hSt hret x1 H locs ls hH hl h)
end
