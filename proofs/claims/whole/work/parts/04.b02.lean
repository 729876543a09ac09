theorem zdX6_inverse : yX6_inverse.cls ≠ "java/lang/invoke/MethodHandle" ∧ yX6_inverse.cls ≠ "java/lang/invoke/VarHandle" ∧ (parseMethodDescriptor yX6_inverse.desc).map (fun d => d.parameters.length) = some 1 := by decide +kernel
-- MixingRelaysModel inverse(I)I
section
variable {p : Program} {l : Launch} {e : Env} {s : State} {m : MethodId} {args : Array Value} {below : List Frame} {meth : Method} {c : Code} {Q : State → Prop} {G : zG} {O : zM}
def pX6_inverse_b20 (post : Int32 → Prop) (t0 : Int32) : Prop :=
  post t0
set_option maxHeartbeats 4000000 in
set_option maxRecDepth 100000 in
theorem wX6_inverse_b20 {M : zM} {post : Int32 → Prop}  (hF : CallFix p m c cX6_inverse 2 s args wsX6_inverse RX6) (hSt : zSt G s) (hret : zRi p l e ({ frames := 2, cells := 0, slots := 0, locals := 45 } : Room) s m args below meth c Q cX6_inverse G false O (fun r M1 => M1 = M ∧ post r)) (t0 : Int32) (H : Heap) (locs : List Loc) (ls : Array Slot) (hH : zH G false s H locs M O) (hl : lv_has ls 2 []) (h : pX6_inverse_b20 post t0) : W p l e ({ frames := 2, cells := 0, slots := 0, locals := 45 } : Room) s m args below meth c H locs 0 0 Q (F0 m 20 ls [.int t0]) := by
  obtain ⟨hx, hb, hml, hown, hts⟩ := id hF
  unfold pX6_inverse_b20 at h
  exact hret _ _ _ _ _ _ dX6_inverse_20 ⟨rfl, h⟩ hH
def pX6_inverse (x1 : Int32) (post : Int32 → Prop) : Prop :=
  pX6_in x1 (1 : Int32) (255 : Int32) (fun r5 => (r5 = 0 → pX6_inverse_b20 post (-2 : Int32)) ∧ (¬ (r5 = 0) → pX6_inverseOf x1 (fun r12 => pX6_inverse_b20 post r12)))
set_option maxHeartbeats 4000000 in
set_option maxRecDepth 100000 in
theorem wX6_inverse {M : zM} {post : Int32 → Prop} (hF : CallFix p m c cX6_inverse 2 s args wsX6_inverse RX6) (hSt : zSt G s) (hret : zRi p l e ({ frames := 2, cells := 0, slots := 0, locals := 45 } : Room) s m args below meth c Q cX6_inverse G false O (fun r M1 => M1 = M ∧ post r)) (x1 : Int32) (H : Heap) (locs : List Loc) (ls : Array Slot) (hH : zH G false s H locs M O) (hl : lv_has ls 2 [(0, .ref (G.1 21)), (1, .int x1)]) (h : pX6_inverse x1 post) : W p l e ({ frames := 2, cells := 0, slots := 0, locals := 45 } : Room) s m args below meth c H locs 0 0 Q (F0 m 0 ls []) := by
  obtain ⟨hx, hb, hml, hown, hts⟩ := id hF
  unfold pX6_inverse at h
  refine lv_iload_n hx hb dX6_inverse_0 rfl (lv_at hl 1 rfl) ?_
  refine lv_iconst (v := (1 : Int32)) hx hb dX6_inverse_1 (by decide) ?_
  refine lv_sipush (v := (255 : Int32)) hx hb dX6_inverse_2 (by decide) ?_
  refine zcalliP hH (va_runS (As := [.int x1, .int (1 : Int32), .int (255 : Int32)]) (rest := []) hF (kX6_in l G M O x1 (1 : Int32) (255 : Int32) _ h) (va_cwS 3 hts gX6_inverse_X6_in rfl rfl rfl zdX6_in ⟨Nat.le_of_ble_eq_true rfl, Nat.le_of_ble_eq_true rfl⟩) (zpreS hSt hH [.int x1, .int (1 : Int32), .int (255 : Int32)]) rfl rfl hl.1 rfl (lv_room (Nat.le_of_ble_eq_true rfl)) dX6_inverse_5 ⟨Nat.zero_le _, Nat.zero_le _⟩) (fun r5 H locs h hH => ?_)
  refine lv_if_eq (tgt := 18) hx hb dX6_inverse_8 (by decide) (fun q8 => ?_) (fun q8 => ?_)
  · have h := h.1 q8
    refine lv_bipush (v := (-2 : Int32)) hx hb dX6_inverse_18 (by decide) ?_
    exact wX6_inverse_b20 hF hSt hret (-2 : Int32) H locs ls hH (lv_sub hl [] rfl) h
  · have h := h.2 q8
    refine lv_iload_n hx hb dX6_inverse_11 rfl (lv_at hl 1 rfl) ?_
    refine zcalliP hH (va_runS (As := [.int x1]) (rest := []) hF (kX6_inverseOf l G M O x1 _ h) (va_cwS 1 hts gX6_inverse_X6_inverseOf rfl rfl rfl zdX6_inverseOf ⟨Nat.le_of_ble_eq_true rfl, Nat.le_of_ble_eq_true rfl⟩) (zpreS hSt hH [.int x1]) rfl rfl hl.1 rfl (lv_room (Nat.le_of_ble_eq_true rfl)) dX6_inverse_12 ⟨Nat.zero_le _, Nat.zero_le _⟩) (fun r12 H locs h hH => ?_)
    refine lv_goto (tgt := 20) hx hb dX6_inverse_15 (by decide) ?_
    exact wX6_inverse_b20 hF hSt hret r12 H locs ls hH (lv_sub hl [] rfl) h
set_option maxRecDepth 100000 in
theorem kX6_inverse (l : Launch) (G : zG) (M O : zM) (x1 : Int32) (post : Int32 → Prop) (h : pX6_inverse x1 post) : Met l yX6_inverse wsX6_inverse ({ frames := 2, cells := 0, slots := 0, locals := 45 } : Room) (zPc G false M O [.ref (G.1 21), .int x1]) (va_Qi (fun r M1 => M1 = M ∧ post r) (zB G false O) (zAA G)) 0 0 (zAA G) :=
  zmet_i (by decide) rfl (Nat.le_of_ble_eq_true rfl) (fun hF hSt hret H locs ls hH hl => wX6_inverse hF hSt hret x1 H locs ls hH hl h)
end
theorem znX6_seek_X6 : ∀ w ∈ wsX60, w ∈ wsX6_seek := fun _ h => List.mem_cons_of_mem _ (List.mem_append_right _ h)
theorem zdX6_seek : yX6_seek.cls ≠ "java/lang/invoke/MethodHandle" ∧ yX6_seek.cls ≠ "java/lang/invoke/VarHandle" ∧ (parseMethodDescriptor yX6_seek.desc).map (fun d => d.parameters.length) = some 0 := by decide +kernel
-- MixingRelaysModel seek()V
section
variable {p : Program} {l : Launch} {e : Env} {s : State} {m : MethodId} {args : Array Value} {below : List Frame} {meth : Method} {c : Code} {Q : State → Prop} {G : zG} {O : zM}
def pX6_seek_b157 (post : zM → Prop) (ag38 : Int32 → zM → Prop) (ag46 : Int32 → Int32 → zM → Prop) (x1 : Int32) (x2 : Int32) (M : zM) : Prop :=
  ag46 x1 (x2 + (1 : Int32)) M
set_option maxHeartbeats 4000000 in
set_option maxRecDepth 100000 in
theorem wX6_seek_b157 {post : zM → Prop} {ag38 : Int32 → zM → Prop} {ag46 : Int32 → Int32 → zM → Prop} (hF : CallFix p m c cX6_seek 5 s args wsX6_seek RX6) (hSt : zSt G s) (hret : zRv p l e ({ frames := 0, cells := 0, slots := 0, locals := 0 } : Room) s m args below meth c Q cX6_seek G false O post) (hag38 : ∀ (x1 : Int32) (M : zM) (H : Heap) (locs : List Loc) (ls : Array Slot), ag38 x1 M → zH G false s H locs M O → lv_has ls 5 [(0, .ref (G.1 21)), (1, .int x1)] → W p l e ({ frames := 0, cells := 0, slots := 0, locals := 0 } : Room) s m args below meth c H locs 0 0 Q (F0 m 38 ls [])) (hag46 : ∀ (x1 : Int32) (x2 : Int32) (M : zM) (H : Heap) (locs : List Loc) (ls : Array Slot), ag46 x1 x2 M → zH G false s H locs M O → lv_has ls 5 [(0, .ref (G.1 21)), (1, .int x1), (2, .int x2)] → W p l e ({ frames := 0, cells := 0, slots := 0, locals := 0 } : Room) s m args below meth c H locs 0 0 Q (F0 m 46 ls [])) (x1 : Int32) (x2 : Int32) (M : zM) (H : Heap) (locs : List Loc) (ls : Array Slot) (hH : zH G false s H locs M O) (hl : lv_has ls 5 [(0, .ref (G.1 21)), (1, .int x1), (2, .int x2)]) (h : pX6_seek_b157 post ag38 ag46 x1 x2 M) : W p l e ({ frames := 0, cells := 0, slots := 0, locals := 0 } : Room) s m args below meth c H locs 0 0 Q (F0 m 157 ls []) := by
  obtain ⟨hx, hb, hml, hown, hts⟩ := id hF
  unfold pX6_seek_b157 at h
  refine lv_iinc (v := (x2 + (1 : Int32))) (lv' := [(2, .int (x2 + (1 : Int32))), (0, .ref (G.1 21)), (1, .int x1)]) hx hb dX6_seek_157 hl (k := 2) rfl rfl (by decide) rfl (fun ls hl => ?_)
  refine lv_goto (tgt := 46) hx hb dX6_seek_160 (by decide) ?_
  exact hag46 x1 (x2 + (1 : Int32)) M H locs ls h hH (lv_sub hl [1, 2, 0] rfl)
def pX6_seek_b115 (post : zM → Prop) (ag38 : Int32 → zM → Prop) (ag46 : Int32 → Int32 → zM → Prop) (x1 : Int32) (x2 : Int32) (x3 : Int32) (t0 : Int32) (M : zM) : Prop :=
  vp_in x3 12 ∧ ((M.1 31 x3.toNatClampNeg) = 0 → pX6_seek_b157 post ag38 ag46 x1 x2 M) ∧ (¬ ((M.1 31 x3.toNatClampNeg) = 0) → vp_in t0 12 ∧ ((M.1 31 t0.toNatClampNeg) = 0 → vp_in t0 12 ∧ vp_in t0 12 ∧ pX6_seek_b157 post ag38 ag46 (1 : Int32) x2 (zsi (zsi M 31 t0.toNatClampNeg (vp_nar .boolean (1 : Int32))) 32 t0.toNatClampNeg x2)) ∧ (¬ ((M.1 31 t0.toNatClampNeg) = 0) → pX6_seek_b157 post ag38 ag46 x1 x2 M))
set_option maxHeartbeats 4000000 in
set_option maxRecDepth 100000 in
theorem wX6_seek_b115 {post : zM → Prop} {ag38 : Int32 → zM → Prop} {ag46 : Int32 → Int32 → zM → Prop} (hF : CallFix p m c cX6_seek 5 s args wsX6_seek RX6) (hSt : zSt G s) (hret : zRv p l e ({ frames := 0, cells := 0, slots := 0, locals := 0 } : Room) s m args below meth c Q cX6_seek G false O post) (hag38 : ∀ (x1 : Int32) (M : zM) (H : Heap) (locs : List Loc) (ls : Array Slot), ag38 x1 M → zH G false s H locs M O → lv_has ls 5 [(0, .ref (G.1 21)), (1, .int x1)] → W p l e ({ frames := 0, cells := 0, slots := 0, locals := 0 } : Room) s m args below meth c H locs 0 0 Q (F0 m 38 ls [])) (hag46 : ∀ (x1 : Int32) (x2 : Int32) (M : zM) (H : Heap) (locs : List Loc) (ls : Array Slot), ag46 x1 x2 M → zH G false s H locs M O → lv_has ls 5 [(0, .ref (G.1 21)), (1, .int x1), (2, .int x2)] → W p l e ({ frames := 0, cells := 0, slots := 0, locals := 0 } : Room) s m args below meth c H locs 0 0 Q (F0 m 46 ls [])) (x1 : Int32) (x2 : Int32) (x3 : Int32) (t0 : Int32) (M : zM) (H : Heap) (locs : List Loc) (ls : Array Slot) (hH : zH G false s H locs M O) (hl : lv_has ls 5 [(0, .ref (G.1 21)), (1, .int x1), (2, .int x2), (3, .int x3)]) (h : pX6_seek_b115 post ag38 ag46 x1 x2 x3 t0 M) : W p l e ({ frames := 0, cells := 0, slots := 0, locals := 0 } : Room) s m args below meth c H locs 0 0 Q (F0 m 115 ls [.int t0]) := by
  obtain ⟨hx, hb, hml, hown, hts⟩ := id hF
  unfold pX6_seek_b115 at h
  refine lv_istore (lv' := [(4, .int t0), (0, .ref (G.1 21)), (1, .int x1), (2, .int x2), (3, .int x3)]) hx hb dX6_seek_115 hl (by decide) rfl (fun ls hl => ?_)
  refine lv_aload_n hx hb dX6_seek_117 rfl (lv_at hl 1 rfl) ?_
  refine zget (v := .ref (G.1 31)) hF hSt hH 21 (by decide) rfl (zE_21 _ _ _) (C := RX6) (T := TX6) (N := 31) rfl znX6_seek_X6 13 (by decide) (List.mem_of_getElem? (i := 1) rfl) rfl dX6_seek_118 ?_
  refine lv_iload_n hx hb dX6_seek_121 rfl (lv_at hl 4 rfl) ?_
  obtain ⟨q122, h⟩ := h
  refine zzald hF hSt hH 31 (by decide) rfl (zE_31 _ _ _) q122 dX6_seek_122 ?_
  refine lv_if_eq (tgt := 157) hx hb dX6_seek_123 (by decide) (fun q123 => ?_) (fun q123 => ?_)
  · have h := h.1 q123
    exact wX6_seek_b157 hF hSt hret hag38 hag46 x1 x2 M H locs ls hH (lv_sub hl [1, 2, 3] rfl) h
  · have h := h.2 q123
    refine lv_aload_n hx hb dX6_seek_126 rfl (lv_at hl 1 rfl) ?_
    refine zget (v := .ref (G.1 31)) hF hSt hH 21 (by decide) rfl (zE_21 _ _ _) (C := RX6) (T := TX6) (N := 31) rfl znX6_seek_X6 13 (by decide) (List.mem_of_getElem? (i := 1) rfl) rfl dX6_seek_127 ?_
    refine lv_iload hx hb dX6_seek_130 (lv_at hl 0 rfl) ?_
    obtain ⟨q132, h⟩ := h
    refine zzald hF hSt hH 31 (by decide) rfl (zE_31 _ _ _) q132 dX6_seek_132 ?_
    refine lv_if_eq (tgt := 139) hx hb dX6_seek_133 (by decide) (fun q133 => ?_) (fun q133 => ?_)
    · have h := h.1 q133
      refine lv_aload_n hx hb dX6_seek_139 rfl (lv_at hl 1 rfl) ?_
      refine zget (v := .ref (G.1 31)) hF hSt hH 21 (by decide) rfl (zE_21 _ _ _) (C := RX6) (T := TX6) (N := 31) rfl znX6_seek_X6 13 (by decide) (List.mem_of_getElem? (i := 1) rfl) rfl dX6_seek_140 ?_
      refine lv_iload hx hb dX6_seek_143 (lv_at hl 0 rfl) ?_
      refine lv_iconst (v := (1 : Int32)) hx hb dX6_seek_145 (by decide) ?_
      obtain ⟨q146, h⟩ := h
      refine zzast hF hSt hH 31 (by decide) rfl (zE_31 _) (x := (1 : Int32)) q146 dX6_seek_146 (fun H locs hH => ?_)
      refine lv_aload_n hx hb dX6_seek_147 rfl (lv_at hl 1 rfl) ?_
      refine zget (v := .ref (G.1 32)) hF hSt hH 21 (by decide) rfl (zE_21 _ _ _) (C := RX6) (T := TX6) (N := 31) rfl znX6_seek_X6 14 (by decide) (List.mem_of_getElem? (i := 2) rfl) rfl dX6_seek_148 ?_
      refine lv_iload hx hb dX6_seek_151 (lv_at hl 0 rfl) ?_
      refine lv_iload_n hx hb dX6_seek_153 rfl (lv_at hl 3 rfl) ?_
      obtain ⟨q154, h⟩ := h
      refine zast hF hSt hH 32 (by decide) rfl (zE_32 _) (x := x2) q154 dX6_seek_154 (fun H locs hH => ?_)
      refine lv_iconst (v := (1 : Int32)) hx hb dX6_seek_155 (by decide) ?_
      refine lv_istore_n (lv' := [(1, .int (1 : Int32)), (4, .int t0), (0, .ref (G.1 21)), (2, .int x2), (3, .int x3)]) hx hb dX6_seek_156 rfl hl (by decide) rfl (fun ls hl => ?_)
      exact wX6_seek_b157 hF hSt hret hag38 hag46 (1 : Int32) x2 (zsi (zsi M 31 t0.toNatClampNeg (vp_nar .boolean (1 : Int32))) 32 t0.toNatClampNeg x2) H locs ls hH (lv_sub hl [2, 0, 3] rfl) h
    · have h := h.2 q133
      refine lv_goto (tgt := 157) hx hb dX6_seek_136 (by decide) ?_
      exact wX6_seek_b157 hF hSt hret hag38 hag46 x1 x2 M H locs ls hH (lv_sub hl [1, 2, 3] rfl) h
def pX6_seek_b90 (post : zM → Prop) (ag38 : Int32 → zM → Prop) (ag46 : Int32 → Int32 → zM → Prop) (x1 : Int32) (x2 : Int32) (t0 : Int32) (M : zM) : Prop :=
  vp_in x2 30 ∧ ((M.1 30 x2.toNatClampNeg) = 0 → vp_in x2 30 ∧ pX6_seek_b115 post ag38 ag46 x1 x2 t0 (M.1 25 x2.toNatClampNeg) M) ∧ (¬ ((M.1 30 x2.toNatClampNeg) = 0) → vp_in x2 30 ∧ pX6_seek_b115 post ag38 ag46 x1 x2 t0 (M.1 24 x2.toNatClampNeg) M)
set_option maxHeartbeats 4000000 in
set_option maxRecDepth 100000 in
theorem wX6_seek_b90 {post : zM → Prop} {ag38 : Int32 → zM → Prop} {ag46 : Int32 → Int32 → zM → Prop} (hF : CallFix p m c cX6_seek 5 s args wsX6_seek RX6) (hSt : zSt G s) (hret : zRv p l e ({ frames := 0, cells := 0, slots := 0, locals := 0 } : Room) s m args below meth c Q cX6_seek G false O post) (hag38 : ∀ (x1 : Int32) (M : zM) (H : Heap) (locs : List Loc) (ls : Array Slot), ag38 x1 M → zH G false s H locs M O → lv_has ls 5 [(0, .ref (G.1 21)), (1, .int x1)] → W p l e ({ frames := 0, cells := 0, slots := 0, locals := 0 } : Room) s m args below meth c H locs 0 0 Q (F0 m 38 ls [])) (hag46 : ∀ (x1 : Int32) (x2 : Int32) (M : zM) (H : Heap) (locs : List Loc) (ls : Array Slot), ag46 x1 x2 M → zH G false s H locs M O → lv_has ls 5 [(0, .ref (G.1 21)), (1, .int x1), (2, .int x2)] → W p l e ({ frames := 0, cells := 0, slots := 0, locals := 0 } : Room) s m args below meth c H locs 0 0 Q (F0 m 46 ls [])) (x1 : Int32) (x2 : Int32) (t0 : Int32) (M : zM) (H : Heap) (locs : List Loc) (ls : Array Slot) (hH : zH G false s H locs M O) (hl : lv_has ls 5 [(0, .ref (G.1 21)), (1, .int x1), (2, .int x2)]) (h : pX6_seek_b90 post ag38 ag46 x1 x2 t0 M) : W p l e ({ frames := 0, cells := 0, slots := 0, locals := 0 } : Room) s m args below meth c H locs 0 0 Q (F0 m 90 ls [.int t0]) := by
  obtain ⟨hx, hb, hml, hown, hts⟩ := id hF
  unfold pX6_seek_b90 at h
  refine lv_istore_n (lv' := [(3, .int t0), (0, .ref (G.1 21)), (1, .int x1), (2, .int x2)]) hx hb dX6_seek_90 rfl hl (by decide) rfl (fun ls hl => ?_)
  refine lv_aload_n hx hb dX6_seek_91 rfl (lv_at hl 1 rfl) ?_
  refine zget (v := .ref (G.1 30)) hF hSt hH 21 (by decide) rfl (zE_21 _ _ _) (C := RX6) (T := TX6) (N := 31) rfl znX6_seek_X6 12 (by decide) (List.mem_of_getElem? (i := 5) rfl) rfl dX6_seek_92 ?_
  refine lv_iload_n hx hb dX6_seek_95 rfl (lv_at hl 3 rfl) ?_
  obtain ⟨q96, h⟩ := h
  refine zzald hF hSt hH 30 (by decide) rfl (zE_30 _ _ _) q96 dX6_seek_96 ?_
  refine lv_if_eq (tgt := 109) hx hb dX6_seek_97 (by decide) (fun q97 => ?_) (fun q97 => ?_)
  · have h := h.1 q97
    refine lv_aload_n hx hb dX6_seek_109 rfl (lv_at hl 1 rfl) ?_
    refine zget (v := .ref (G.1 25)) hF hSt hH 21 (by decide) rfl (zE_21 _ _ _) (C := RX6) (T := TX6) (N := 31) rfl znX6_seek_X6 7 (by decide) (List.mem_of_getElem? (i := 6) rfl) rfl dX6_seek_110 ?_
    refine lv_iload_n hx hb dX6_seek_113 rfl (lv_at hl 3 rfl) ?_
    obtain ⟨q114, h⟩ := h
    refine zald hF hSt hH 25 (by decide) rfl (zE_25 _ _ _) q114 dX6_seek_114 ?_
    exact wX6_seek_b115 hF hSt hret hag38 hag46 x1 x2 t0 (M.1 25 x2.toNatClampNeg) M H locs ls hH (lv_sub hl [1, 2, 3, 0] rfl) h
  · have h := h.2 q97
    refine lv_aload_n hx hb dX6_seek_100 rfl (lv_at hl 1 rfl) ?_
    refine zget (v := .ref (G.1 24)) hF hSt hH 21 (by decide) rfl (zE_21 _ _ _) (C := RX6) (T := TX6) (N := 31) rfl znX6_seek_X6 6 (by decide) (List.mem_of_getElem? (i := 7) rfl) rfl dX6_seek_101 ?_
    refine lv_iload_n hx hb dX6_seek_104 rfl (lv_at hl 3 rfl) ?_
    obtain ⟨q105, h⟩ := h
    refine zald hF hSt hH 24 (by decide) rfl (zE_24 _ _ _) q105 dX6_seek_105 ?_
    refine lv_goto (tgt := 115) hx hb dX6_seek_106 (by decide) ?_
    exact wX6_seek_b115 hF hSt hret hag38 hag46 x1 x2 t0 (M.1 24 x2.toNatClampNeg) M H locs ls hH (lv_sub hl [1, 2, 3, 0] rfl) h
def pX6_seek_b46 (post : zM → Prop) (ag38 : Int32 → zM → Prop) (ag46 : Int32 → Int32 → zM → Prop) (x1 : Int32) (x2 : Int32) (M : zM) : Prop :=
  ((M.1 21 2) ≤ x2 → ag38 x1 M) ∧ (¬ ((M.1 21 2) ≤ x2) → vp_in x2 30 ∧ ((M.1 27 x2.toNatClampNeg) = 0 → vp_in x2 30 ∧ ((M.1 30 x2.toNatClampNeg) = 0 → vp_in x2 30 ∧ pX6_seek_b90 post ag38 ag46 x1 x2 (M.1 24 x2.toNatClampNeg) M) ∧ (¬ ((M.1 30 x2.toNatClampNeg) = 0) → vp_in x2 30 ∧ pX6_seek_b90 post ag38 ag46 x1 x2 (M.1 25 x2.toNatClampNeg) M)) ∧ (¬ ((M.1 27 x2.toNatClampNeg) = 0) → pX6_seek_b157 post ag38 ag46 x1 x2 M))
set_option maxHeartbeats 4000000 in
set_option maxRecDepth 100000 in
theorem wX6_seek_b46 {post : zM → Prop} {ag38 : Int32 → zM → Prop} {ag46 : Int32 → Int32 → zM → Prop} (hF : CallFix p m c cX6_seek 5 s args wsX6_seek RX6) (hSt : zSt G s) (hret : zRv p l e ({ frames := 0, cells := 0, slots := 0, locals := 0 } : Room) s m args below meth c Q cX6_seek G false O post) (hag38 : ∀ (x1 : Int32) (M : zM) (H : Heap) (locs : List Loc) (ls : Array Slot), ag38 x1 M → zH G false s H locs M O → lv_has ls 5 [(0, .ref (G.1 21)), (1, .int x1)] → W p l e ({ frames := 0, cells := 0, slots := 0, locals := 0 } : Room) s m args below meth c H locs 0 0 Q (F0 m 38 ls [])) (hag46 : ∀ (x1 : Int32) (x2 : Int32) (M : zM) (H : Heap) (locs : List Loc) (ls : Array Slot), ag46 x1 x2 M → zH G false s H locs M O → lv_has ls 5 [(0, .ref (G.1 21)), (1, .int x1), (2, .int x2)] → W p l e ({ frames := 0, cells := 0, slots := 0, locals := 0 } : Room) s m args below meth c H locs 0 0 Q (F0 m 46 ls [])) (x1 : Int32) (x2 : Int32) (M : zM) (H : Heap) (locs : List Loc) (ls : Array Slot) (hH : zH G false s H locs M O) (hl : lv_has ls 5 [(0, .ref (G.1 21)), (1, .int x1), (2, .int x2)]) (h : pX6_seek_b46 post ag38 ag46 x1 x2 M) : W p l e ({ frames := 0, cells := 0, slots := 0, locals := 0 } : Room) s m args below meth c H locs 0 0 Q (F0 m 46 ls []) := by
  obtain ⟨hx, hb, hml, hown, hts⟩ := id hF
  unfold pX6_seek_b46 at h
  refine lv_iload_n hx hb dX6_seek_46 rfl (lv_at hl 2 rfl) ?_
  refine lv_aload_n hx hb dX6_seek_47 rfl (lv_at hl 0 rfl) ?_
  refine zget (v := .int (M.1 21 2)) hF hSt hH 21 (by decide) rfl (zE_21 _ _ _) (C := RX6) (T := TX6) (N := 31) rfl znX6_seek_X6 2 (by decide) (List.mem_of_getElem? (i := 3) rfl) rfl dX6_seek_48 ?_
  refine lv_icmp_ge (tgt := 163) hx hb dX6_seek_51 (by decide) (fun q51 => ?_) (fun q51 => ?_)
  · have h := h.1 q51
    refine lv_goto (tgt := 38) hx hb dX6_seek_163 (by decide) ?_
    exact hag38 x1 M H locs ls h hH (lv_sub hl [0, 1] rfl)
  · have h := h.2 q51
    refine lv_aload_n hx hb dX6_seek_54 rfl (lv_at hl 0 rfl) ?_
    refine zget (v := .ref (G.1 27)) hF hSt hH 21 (by decide) rfl (zE_21 _ _ _) (C := RX6) (T := TX6) (N := 31) rfl znX6_seek_X6 9 (by decide) (List.mem_of_getElem? (i := 4) rfl) rfl dX6_seek_55 ?_
    refine lv_iload_n hx hb dX6_seek_58 rfl (lv_at hl 2 rfl) ?_
    obtain ⟨q59, h⟩ := h
    refine zzald hF hSt hH 27 (by decide) rfl (zE_27 _ _ _) q59 dX6_seek_59 ?_
    refine lv_if_eq (tgt := 66) hx hb dX6_seek_60 (by decide) (fun q60 => ?_) (fun q60 => ?_)
    · have h := h.1 q60
      refine lv_aload_n hx hb dX6_seek_66 rfl (lv_at hl 0 rfl) ?_
      refine zget (v := .ref (G.1 30)) hF hSt hH 21 (by decide) rfl (zE_21 _ _ _) (C := RX6) (T := TX6) (N := 31) rfl znX6_seek_X6 12 (by decide) (List.mem_of_getElem? (i := 5) rfl) rfl dX6_seek_67 ?_
      refine lv_iload_n hx hb dX6_seek_70 rfl (lv_at hl 2 rfl) ?_
      obtain ⟨q71, h⟩ := h
      refine zzald hF hSt hH 30 (by decide) rfl (zE_30 _ _ _) q71 dX6_seek_71 ?_
      refine lv_if_eq (tgt := 84) hx hb dX6_seek_72 (by decide) (fun q72 => ?_) (fun q72 => ?_)
      · have h := h.1 q72
        refine lv_aload_n hx hb dX6_seek_84 rfl (lv_at hl 0 rfl) ?_
        refine zget (v := .ref (G.1 24)) hF hSt hH 21 (by decide) rfl (zE_21 _ _ _) (C := RX6) (T := TX6) (N := 31) rfl znX6_seek_X6 6 (by decide) (List.mem_of_getElem? (i := 7) rfl) rfl dX6_seek_85 ?_
        refine lv_iload_n hx hb dX6_seek_88 rfl (lv_at hl 2 rfl) ?_
        obtain ⟨q89, h⟩ := h
        refine zald hF hSt hH 24 (by decide) rfl (zE_24 _ _ _) q89 dX6_seek_89 ?_
        exact wX6_seek_b90 hF hSt hret hag38 hag46 x1 x2 (M.1 24 x2.toNatClampNeg) M H locs ls hH (lv_sub hl [0, 1, 2] rfl) h
      · have h := h.2 q72
        refine lv_aload_n hx hb dX6_seek_75 rfl (lv_at hl 0 rfl) ?_
        refine zget (v := .ref (G.1 25)) hF hSt hH 21 (by decide) rfl (zE_21 _ _ _) (C := RX6) (T := TX6) (N := 31) rfl znX6_seek_X6 7 (by decide) (List.mem_of_getElem? (i := 6) rfl) rfl dX6_seek_76 ?_
        refine lv_iload_n hx hb dX6_seek_79 rfl (lv_at hl 2 rfl) ?_
        obtain ⟨q80, h⟩ := h
        refine zald hF hSt hH 25 (by decide) rfl (zE_25 _ _ _) q80 dX6_seek_80 ?_
        refine lv_goto (tgt := 90) hx hb dX6_seek_81 (by decide) ?_
        exact wX6_seek_b90 hF hSt hret hag38 hag46 x1 x2 (M.1 25 x2.toNatClampNeg) M H locs ls hH (lv_sub hl [0, 1, 2] rfl) h
    · have h := h.2 q60
      refine lv_goto (tgt := 157) hx hb dX6_seek_63 (by decide) ?_
      exact wX6_seek_b157 hF hSt hret hag38 hag46 x1 x2 M H locs ls hH (lv_sub hl [0, 1, 2] rfl) h
def pX6_seek_L46 (post : zM → Prop) (ag38 : Int32 → zM → Prop) (x1 : Int32) (x2 : Int32) (M : zM) : Prop :=
  ∃ I : Nat → Int32 → Int32 → zM → Prop, (∃ n, I n x1 x2 M) ∧ ∀ n x1 x2 M, I n x1 x2 M → pX6_seek_b46 post ag38 (fun x1 x2 M => ∃ k, k < n ∧ I k x1 x2 M) x1 x2 M
set_option maxHeartbeats 4000000 in
theorem wX6_seek_L46 {post : zM → Prop} {ag38 : Int32 → zM → Prop} (hF : CallFix p m c cX6_seek 5 s args wsX6_seek RX6) (hSt : zSt G s) (hret : zRv p l e ({ frames := 0, cells := 0, slots := 0, locals := 0 } : Room) s m args below meth c Q cX6_seek G false O post) (hag38 : ∀ (x1 : Int32) (M : zM) (H : Heap) (locs : List Loc) (ls : Array Slot), ag38 x1 M → zH G false s H locs M O → lv_has ls 5 [(0, .ref (G.1 21)), (1, .int x1)] → W p l e ({ frames := 0, cells := 0, slots := 0, locals := 0 } : Room) s m args below meth c H locs 0 0 Q (F0 m 38 ls [])) (x1 : Int32) (x2 : Int32) (M : zM) (H : Heap) (locs : List Loc) (ls : Array Slot) (hH : zH G false s H locs M O) (hl : lv_has ls 5 [(0, .ref (G.1 21)), (1, .int x1), (2, .int x2)]) (h : pX6_seek_L46 post ag38 x1 x2 M) : W p l e ({ frames := 0, cells := 0, slots := 0, locals := 0 } : Room) s m args below meth c H locs 0 0 Q (F0 m 46 ls []) := by
  obtain ⟨I, ⟨n, hI⟩, hs⟩ := h
  have key : ∀ (n : Nat) (x1 : Int32) (x2 : Int32) (M : zM) (H : Heap) (locs : List Loc) (ls : Array Slot), I n x1 x2 M → zH G false s H locs M O → lv_has ls 5 [(0, .ref (G.1 21)), (1, .int x1), (2, .int x2)] → W p l e ({ frames := 0, cells := 0, slots := 0, locals := 0 } : Room) s m args below meth c H locs 0 0 Q (F0 m 46 ls []) := by
    intro n
    induction n using Nat.strongRecOn with
    | _ n ih =>
      intro x1 x2 M H locs ls hI hH hl
      exact wX6_seek_b46 hF hSt hret hag38 (fun x1 x2 M H locs ls h hH hl => by obtain ⟨k, hk, hI⟩ := h; exact ih k hk x1 x2 M H locs ls hI hH hl) x1 x2 M H locs ls hH hl (hs n x1 x2 M hI)
  exact key n x1 x2 M H locs ls hI hH hl
def pX6_seek_b38 (post : zM → Prop) (ag38 : Int32 → zM → Prop) (x1 : Int32) (M : zM) : Prop :=
  (x1 = 0 → post M) ∧ (¬ (x1 = 0) → pX6_seek_L46 post ag38 (0 : Int32) (0 : Int32) M)
set_option maxHeartbeats 4000000 in
set_option maxRecDepth 100000 in
theorem wX6_seek_b38 {post : zM → Prop} {ag38 : Int32 → zM → Prop} (hF : CallFix p m c cX6_seek 5 s args wsX6_seek RX6) (hSt : zSt G s) (hret : zRv p l e ({ frames := 0, cells := 0, slots := 0, locals := 0 } : Room) s m args below meth c Q cX6_seek G false O post) (hag38 : ∀ (x1 : Int32) (M : zM) (H : Heap) (locs : List Loc) (ls : Array Slot), ag38 x1 M → zH G false s H locs M O → lv_has ls 5 [(0, .ref (G.1 21)), (1, .int x1)] → W p l e ({ frames := 0, cells := 0, slots := 0, locals := 0 } : Room) s m args below meth c H locs 0 0 Q (F0 m 38 ls [])) (x1 : Int32) (M : zM) (H : Heap) (locs : List Loc) (ls : Array Slot) (hH : zH G false s H locs M O) (hl : lv_has ls 5 [(0, .ref (G.1 21)), (1, .int x1)]) (h : pX6_seek_b38 post ag38 x1 M) : W p l e ({ frames := 0, cells := 0, slots := 0, locals := 0 } : Room) s m args below meth c H locs 0 0 Q (F0 m 38 ls []) := by
  obtain ⟨hx, hb, hml, hown, hts⟩ := id hF
  unfold pX6_seek_b38 at h
  refine lv_iload_n hx hb dX6_seek_38 rfl (lv_at hl 1 rfl) ?_
  refine lv_if_eq (tgt := 166) hx hb dX6_seek_39 (by decide) (fun q39 => ?_) (fun q39 => ?_)
  · have h := h.1 q39
    exact hret _ _ _ _ _ dX6_seek_166 h hH
  · have h := h.2 q39
    refine lv_iconst (v := (0 : Int32)) hx hb dX6_seek_42 (by decide) ?_
    refine lv_istore_n (lv' := [(1, .int (0 : Int32)), (0, .ref (G.1 21))]) hx hb dX6_seek_43 rfl hl (by decide) rfl (fun ls hl => ?_)
    refine lv_iconst (v := (0 : Int32)) hx hb dX6_seek_44 (by decide) ?_
    refine lv_istore_n (lv' := [(2, .int (0 : Int32)), (1, .int (0 : Int32)), (0, .ref (G.1 21))]) hx hb dX6_seek_45 rfl hl (by decide) rfl (fun ls hl => ?_)
    exact wX6_seek_L46 hF hSt hret hag38 (0 : Int32) (0 : Int32) M H locs ls hH (lv_sub hl [2, 1, 0] rfl) h
def pX6_seek_L38 (post : zM → Prop) (x1 : Int32) (M : zM) : Prop :=
  ∃ I : Nat → Int32 → zM → Prop, (∃ n, I n x1 M) ∧ ∀ n x1 M, I n x1 M → pX6_seek_b38 post (fun x1 M => ∃ k, k < n ∧ I k x1 M) x1 M
set_option maxHeartbeats 4000000 in
theorem wX6_seek_L38 {post : zM → Prop}  (hF : CallFix p m c cX6_seek 5 s args wsX6_seek RX6) (hSt : zSt G s) (hret : zRv p l e ({ frames := 0, cells := 0, slots := 0, locals := 0 } : Room) s m args below meth c Q cX6_seek G false O post) (x1 : Int32) (M : zM) (H : Heap) (locs : List Loc) (ls : Array Slot) (hH : zH G false s H locs M O) (hl : lv_has ls 5 [(0, .ref (G.1 21)), (1, .int x1)]) (h : pX6_seek_L38 post x1 M) : W p l e ({ frames := 0, cells := 0, slots := 0, locals := 0 } : Room) s m args below meth c H locs 0 0 Q (F0 m 38 ls []) := by
  obtain ⟨I, ⟨n, hI⟩, hs⟩ := h
  have key : ∀ (n : Nat) (x1 : Int32) (M : zM) (H : Heap) (locs : List Loc) (ls : Array Slot), I n x1 M → zH G false s H locs M O → lv_has ls 5 [(0, .ref (G.1 21)), (1, .int x1)] → W p l e ({ frames := 0, cells := 0, slots := 0, locals := 0 } : Room) s m args below meth c H locs 0 0 Q (F0 m 38 ls []) := by
    intro n
    induction n using Nat.strongRecOn with
    | _ n ih =>
      intro x1 M H locs ls hI hH hl
      exact wX6_seek_b38 hF hSt hret (fun x1 M H locs ls h hH hl => by obtain ⟨k, hk, hI⟩ := h; exact ih k hk x1 M H locs ls hI hH hl) x1 M H locs ls hH hl (hs n x1 M hI)
  exact key n x1 M H locs ls hI hH hl
def pX6_seek_b22 (post : zM → Prop) (ag2 : Int32 → zM → Prop) (x1 : Int32) (t0 : Int32) (t1 : Int32) (M : zM) : Prop :=
  vp_in t1 12 ∧ vp_in x1 12 ∧ ag2 (x1 + (1 : Int32)) (zsi (zsi M 31 t1.toNatClampNeg (vp_nar .boolean t0)) 32 x1.toNatClampNeg (-1 : Int32))
set_option maxHeartbeats 4000000 in
set_option maxRecDepth 100000 in
theorem wX6_seek_b22 {post : zM → Prop} {ag2 : Int32 → zM → Prop} (hF : CallFix p m c cX6_seek 5 s args wsX6_seek RX6) (hSt : zSt G s) (hret : zRv p l e ({ frames := 0, cells := 0, slots := 0, locals := 0 } : Room) s m args below meth c Q cX6_seek G false O post) (hag2 : ∀ (x1 : Int32) (M : zM) (H : Heap) (locs : List Loc) (ls : Array Slot), ag2 x1 M → zH G false s H locs M O → lv_has ls 5 [(0, .ref (G.1 21)), (1, .int x1)] → W p l e ({ frames := 0, cells := 0, slots := 0, locals := 0 } : Room) s m args below meth c H locs 0 0 Q (F0 m 2 ls [])) (x1 : Int32) (t0 : Int32) (t1 : Int32) (M : zM) (H : Heap) (locs : List Loc) (ls : Array Slot) (hH : zH G false s H locs M O) (hl : lv_has ls 5 [(0, .ref (G.1 21)), (1, .int x1)]) (h : pX6_seek_b22 post ag2 x1 t0 t1 M) : W p l e ({ frames := 0, cells := 0, slots := 0, locals := 0 } : Room) s m args below meth c H locs 0 0 Q (F0 m 22 ls [.int t0, .int t1, .ref (G.1 31)]) := by
  obtain ⟨hx, hb, hml, hown, hts⟩ := id hF
  unfold pX6_seek_b22 at h
  obtain ⟨q22, h⟩ := h
  refine zzast hF hSt hH 31 (by decide) rfl (zE_31 _) (x := t0) q22 dX6_seek_22 (fun H locs hH => ?_)
  refine lv_aload_n hx hb dX6_seek_23 rfl (lv_at hl 0 rfl) ?_
  refine zget (v := .ref (G.1 32)) hF hSt hH 21 (by decide) rfl (zE_21 _ _ _) (C := RX6) (T := TX6) (N := 31) rfl znX6_seek_X6 14 (by decide) (List.mem_of_getElem? (i := 2) rfl) rfl dX6_seek_24 ?_
  refine lv_iload_n hx hb dX6_seek_27 rfl (lv_at hl 1 rfl) ?_
  refine lv_iconst (v := (-1 : Int32)) hx hb dX6_seek_28 (by decide) ?_
  obtain ⟨q29, h⟩ := h
  refine zast hF hSt hH 32 (by decide) rfl (zE_32 _) (x := (-1 : Int32)) q29 dX6_seek_29 (fun H locs hH => ?_)
  refine lv_iinc (v := (x1 + (1 : Int32))) (lv' := [(1, .int (x1 + (1 : Int32))), (0, .ref (G.1 21))]) hx hb dX6_seek_30 hl (k := 1) rfl rfl (by decide) rfl (fun ls hl => ?_)
  refine lv_goto (tgt := 2) hx hb dX6_seek_33 (by decide) ?_
  exact hag2 (x1 + (1 : Int32)) (zsi (zsi M 31 t1.toNatClampNeg (vp_nar .boolean t0)) 32 x1.toNatClampNeg (-1 : Int32)) H locs ls h hH (lv_sub hl [1, 0] rfl)
def pX6_seek_b2 (post : zM → Prop) (ag2 : Int32 → zM → Prop) (x1 : Int32) (M : zM) : Prop :=
  ((12 : Int32) ≤ x1 → pX6_seek_L38 post (1 : Int32) M) ∧ (¬ ((12 : Int32) ≤ x1) → (¬ (x1 = 0) → pX6_seek_b22 post ag2 x1 (0 : Int32) x1 M) ∧ (x1 = 0 → pX6_seek_b22 post ag2 x1 (1 : Int32) x1 M))
set_option maxHeartbeats 4000000 in
set_option maxRecDepth 100000 in
theorem wX6_seek_b2 {post : zM → Prop} {ag2 : Int32 → zM → Prop} (hF : CallFix p m c cX6_seek 5 s args wsX6_seek RX6) (hSt : zSt G s) (hret : zRv p l e ({ frames := 0, cells := 0, slots := 0, locals := 0 } : Room) s m args below meth c Q cX6_seek G false O post) (hag2 : ∀ (x1 : Int32) (M : zM) (H : Heap) (locs : List Loc) (ls : Array Slot), ag2 x1 M → zH G false s H locs M O → lv_has ls 5 [(0, .ref (G.1 21)), (1, .int x1)] → W p l e ({ frames := 0, cells := 0, slots := 0, locals := 0 } : Room) s m args below meth c H locs 0 0 Q (F0 m 2 ls [])) (x1 : Int32) (M : zM) (H : Heap) (locs : List Loc) (ls : Array Slot) (hH : zH G false s H locs M O) (hl : lv_has ls 5 [(0, .ref (G.1 21)), (1, .int x1)]) (h : pX6_seek_b2 post ag2 x1 M) : W p l e ({ frames := 0, cells := 0, slots := 0, locals := 0 } : Room) s m args below meth c H locs 0 0 Q (F0 m 2 ls []) := by
  obtain ⟨hx, hb, hml, hown, hts⟩ := id hF
  unfold pX6_seek_b2 at h
  refine lv_iload_n hx hb dX6_seek_2 rfl (lv_at hl 1 rfl) ?_
  refine lv_bipush (v := (12 : Int32)) hx hb dX6_seek_3 (by decide) ?_
  refine lv_icmp_ge (tgt := 36) hx hb dX6_seek_5 (by decide) (fun q5 => ?_) (fun q5 => ?_)
  · have h := h.1 q5
    refine lv_iconst (v := (1 : Int32)) hx hb dX6_seek_36 (by decide) ?_
    refine lv_istore_n (lv' := [(1, .int (1 : Int32)), (0, .ref (G.1 21))]) hx hb dX6_seek_37 rfl hl (by decide) rfl (fun ls hl => ?_)
    exact wX6_seek_L38 hF hSt hret (1 : Int32) M H locs ls hH (lv_sub hl [1, 0] rfl) h
  · have h := h.2 q5
    refine lv_aload_n hx hb dX6_seek_8 rfl (lv_at hl 0 rfl) ?_
    refine zget (v := .ref (G.1 31)) hF hSt hH 21 (by decide) rfl (zE_21 _ _ _) (C := RX6) (T := TX6) (N := 31) rfl znX6_seek_X6 13 (by decide) (List.mem_of_getElem? (i := 1) rfl) rfl dX6_seek_9 ?_
    refine lv_iload_n hx hb dX6_seek_12 rfl (lv_at hl 1 rfl) ?_
    refine lv_iload_n hx hb dX6_seek_13 rfl (lv_at hl 1 rfl) ?_
    refine lv_if_ne (tgt := 21) hx hb dX6_seek_14 (by decide) (fun q14 => ?_) (fun q14 => ?_)
    · have h := h.1 q14
      refine lv_iconst (v := (0 : Int32)) hx hb dX6_seek_21 (by decide) ?_
      exact wX6_seek_b22 hF hSt hret hag2 x1 (0 : Int32) x1 M H locs ls hH (lv_sub hl [0, 1] rfl) h
    · have h := h.2 q14
      refine lv_iconst (v := (1 : Int32)) hx hb dX6_seek_17 (by decide) ?_
      refine lv_goto (tgt := 22) hx hb dX6_seek_18 (by decide) ?_
      exact wX6_seek_b22 hF hSt hret hag2 x1 (1 : Int32) x1 M H locs ls hH (lv_sub hl [0, 1] rfl) h
def pX6_seek_L2 (post : zM → Prop) (x1 : Int32) (M : zM) : Prop :=
  ∃ I : Nat → Int32 → zM → Prop, (∃ n, I n x1 M) ∧ ∀ n x1 M, I n x1 M → pX6_seek_b2 post (fun x1 M => ∃ k, k < n ∧ I k x1 M) x1 M
set_option maxHeartbeats 4000000 in
theorem wX6_seek_L2 {post : zM → Prop}  (hF : CallFix p m c cX6_seek 5 s args wsX6_seek RX6) (hSt : zSt G s) (hret : zRv p l e ({ frames := 0, cells := 0, slots := 0, locals := 0 } : Room) s m args below meth c Q cX6_seek G false O post) (x1 : Int32) (M : zM) (H : Heap) (locs : List Loc) (ls : Array Slot) (hH : zH G false s H locs M O) (hl : lv_has ls 5 [(0, .ref (G.1 21)), (1, .int x1)]) (h : pX6_seek_L2 post x1 M) : W p l e ({ frames := 0, cells := 0, slots := 0, locals := 0 } : Room) s m args below meth c H locs 0 0 Q (F0 m 2 ls []) := by
  obtain ⟨I, ⟨n, hI⟩, hs⟩ := h
  have key : ∀ (n : Nat) (x1 : Int32) (M : zM) (H : Heap) (locs : List Loc) (ls : Array Slot), I n x1 M → zH G false s H locs M O → lv_has ls 5 [(0, .ref (G.1 21)), (1, .int x1)] → W p l e ({ frames := 0, cells := 0, slots := 0, locals := 0 } : Room) s m args below meth c H locs 0 0 Q (F0 m 2 ls []) := by
    intro n
    induction n using Nat.strongRecOn with
    | _ n ih =>
      intro x1 M H locs ls hI hH hl
      exact wX6_seek_b2 hF hSt hret (fun x1 M H locs ls h hH hl => by obtain ⟨k, hk, hI⟩ := h; exact ih k hk x1 M H locs ls hI hH hl) x1 M H locs ls hH hl (hs n x1 M hI)
  exact key n x1 M H locs ls hI hH hl
def pX6_seek (M : zM)  (post : zM → Prop) : Prop :=
  pX6_seek_L2 post (0 : Int32) M
set_option maxHeartbeats 4000000 in
set_option maxRecDepth 100000 in
theorem wX6_seek {M : zM} {post : zM → Prop} (hF : CallFix p m c cX6_seek 5 s args wsX6_seek RX6) (hSt : zSt G s) (hret : zRv p l e ({ frames := 0, cells := 0, slots := 0, locals := 0 } : Room) s m args below meth c Q cX6_seek G false O post)  (H : Heap) (locs : List Loc) (ls : Array Slot) (hH : zH G false s H locs M O) (hl : lv_has ls 5 [(0, .ref (G.1 21))]) (h : pX6_seek M  post) : W p l e ({ frames := 0, cells := 0, slots := 0, locals := 0 } : Room) s m args below meth c H locs 0 0 Q (F0 m 0 ls []) := by
  obtain ⟨hx, hb, hml, hown, hts⟩ := id hF
  unfold pX6_seek at h
  refine lv_iconst (v := (0 : Int32)) hx hb dX6_seek_0 (by decide) ?_
  refine lv_istore_n (lv' := [(1, .int (0 : Int32)), (0, .ref (G.1 21))]) hx hb dX6_seek_1 rfl hl (by decide) rfl (fun ls hl => ?_)
  exact wX6_seek_L2 hF hSt hret (0 : Int32) M H locs ls hH (lv_sub hl [1, 0] rfl) h
set_option maxRecDepth 100000 in
theorem kX6_seek (l : Launch) (G : zG) (M O : zM)  (post : zM → Prop) (h : pX6_seek M  post) : Met l yX6_seek wsX6_seek ({ frames := 0, cells := 0, slots := 0, locals := 0 } : Room) (zPc G false M O [.ref (G.1 21)]) (va_Qv post (zB G false O) (zAA G)) 0 0 (zAA G) :=
  zmet_v (by decide) rfl (Nat.le_of_ble_eq_true rfl) (fun hF hSt hret H locs ls hH hl => wX6_seek hF hSt hret  H locs ls hH hl h)
end
theorem znX6_flowOf_X6 : ∀ w ∈ wsX60, w ∈ wsX6_flowOf := fun _ h => List.mem_cons_of_mem _ (List.mem_append_right _ h)
theorem zdX6_flowOf : yX6_flowOf.cls ≠ "java/lang/invoke/MethodHandle" ∧ yX6_flowOf.cls ≠ "java/lang/invoke/VarHandle" ∧ (parseMethodDescriptor yX6_flowOf.desc).map (fun d => d.parameters.length) = some 1 := by decide +kernel
-- MixingRelaysModel flowOf(I)I
section
variable {p : Program} {l : Launch} {e : Env} {s : State} {m : MethodId} {args : Array Value} {below : List Frame} {meth : Method} {c : Code} {Q : State → Prop} {G : zG} {O : zM}
def pX6_flowOf_b99 (post : Int32 → zM → Prop) (ag27 : Int32 → Int32 → zM → Prop) (ag38 : Int32 → Int32 → Int32 → zM → Prop) (x1 : Int32) (x2 : Int32) (x3 : Int32) (t0 : Int32) (t1 : Int32) (M : zM) : Prop :=
  vp_in t1 30 ∧ ag38 x1 x2 x3 (zsi M 30 t1.toNatClampNeg (vp_nar .boolean t0))
set_option maxHeartbeats 4000000 in
set_option maxRecDepth 100000 in
theorem wX6_flowOf_b99 {post : Int32 → zM → Prop} {ag27 : Int32 → Int32 → zM → Prop} {ag38 : Int32 → Int32 → Int32 → zM → Prop} (hF : CallFix p m c cX6_flowOf 5 s args wsX6_flowOf RX6) (hSt : zSt G s) (hret : zRi p l e ({ frames := 1, cells := 0, slots := 0, locals := 24 } : Room) s m args below meth c Q cX6_flowOf G false O post) (hag27 : ∀ (x1 : Int32) (x2 : Int32) (M : zM) (H : Heap) (locs : List Loc) (ls : Array Slot), ag27 x1 x2 M → zH G false s H locs M O → lv_has ls 5 [(0, .ref (G.1 21)), (1, .int x1), (2, .int x2)] → W p l e ({ frames := 1, cells := 0, slots := 0, locals := 24 } : Room) s m args below meth c H locs 0 0 Q (F0 m 27 ls [])) (hag38 : ∀ (x1 : Int32) (x2 : Int32) (x3 : Int32) (M : zM) (H : Heap) (locs : List Loc) (ls : Array Slot), ag38 x1 x2 x3 M → zH G false s H locs M O → lv_has ls 5 [(0, .ref (G.1 21)), (1, .int x1), (2, .int x2), (3, .int x3)] → W p l e ({ frames := 1, cells := 0, slots := 0, locals := 24 } : Room) s m args below meth c H locs 0 0 Q (F0 m 38 ls [])) (x1 : Int32) (x2 : Int32) (x3 : Int32) (t0 : Int32) (t1 : Int32) (M : zM) (H : Heap) (locs : List Loc) (ls : Array Slot) (hH : zH G false s H locs M O) (hl : lv_has ls 5 [(0, .ref (G.1 21)), (1, .int x1), (2, .int x2), (3, .int x3)]) (h : pX6_flowOf_b99 post ag27 ag38 x1 x2 x3 t0 t1 M) : W p l e ({ frames := 1, cells := 0, slots := 0, locals := 24 } : Room) s m args below meth c H locs 0 0 Q (F0 m 99 ls [.int t0, .int t1, .ref (G.1 30)]) := by
  obtain ⟨hx, hb, hml, hown, hts⟩ := id hF
  unfold pX6_flowOf_b99 at h
  obtain ⟨q99, h⟩ := h
  refine zzast hF hSt hH 30 (by decide) rfl (zE_30 _) (x := t0) q99 dX6_flowOf_99 (fun H locs hH => ?_)
  refine lv_goto (tgt := 38) hx hb dX6_flowOf_100 (by decide) ?_
  exact hag38 x1 x2 x3 (zsi M 30 t1.toNatClampNeg (vp_nar .boolean t0)) H locs ls h hH (lv_sub hl [0, 1, 2, 3] rfl)
def pX6_flowOf_b77 (post : Int32 → zM → Prop) (ag27 : Int32 → Int32 → zM → Prop) (ag38 : Int32 → Int32 → Int32 → zM → Prop) (x1 : Int32) (x2 : Int32) (x4 : Int32) (t0 : Int32) (M : zM) : Prop :=
  vp_in x4 30 ∧ (¬ ((M.1 30 x4.toNatClampNeg) = 0) → pX6_flowOf_b99 post ag27 ag38 x1 x2 t0 (0 : Int32) x4 M) ∧ ((M.1 30 x4.toNatClampNeg) = 0 → pX6_flowOf_b99 post ag27 ag38 x1 x2 t0 (1 : Int32) x4 M)
set_option maxHeartbeats 4000000 in
set_option maxRecDepth 100000 in
theorem wX6_flowOf_b77 {post : Int32 → zM → Prop} {ag27 : Int32 → Int32 → zM → Prop} {ag38 : Int32 → Int32 → Int32 → zM → Prop} (hF : CallFix p m c cX6_flowOf 5 s args wsX6_flowOf RX6) (hSt : zSt G s) (hret : zRi p l e ({ frames := 1, cells := 0, slots := 0, locals := 24 } : Room) s m args below meth c Q cX6_flowOf G false O post) (hag27 : ∀ (x1 : Int32) (x2 : Int32) (M : zM) (H : Heap) (locs : List Loc) (ls : Array Slot), ag27 x1 x2 M → zH G false s H locs M O → lv_has ls 5 [(0, .ref (G.1 21)), (1, .int x1), (2, .int x2)] → W p l e ({ frames := 1, cells := 0, slots := 0, locals := 24 } : Room) s m args below meth c H locs 0 0 Q (F0 m 27 ls [])) (hag38 : ∀ (x1 : Int32) (x2 : Int32) (x3 : Int32) (M : zM) (H : Heap) (locs : List Loc) (ls : Array Slot), ag38 x1 x2 x3 M → zH G false s H locs M O → lv_has ls 5 [(0, .ref (G.1 21)), (1, .int x1), (2, .int x2), (3, .int x3)] → W p l e ({ frames := 1, cells := 0, slots := 0, locals := 24 } : Room) s m args below meth c H locs 0 0 Q (F0 m 38 ls [])) (x1 : Int32) (x2 : Int32) (x4 : Int32) (t0 : Int32) (M : zM) (H : Heap) (locs : List Loc) (ls : Array Slot) (hH : zH G false s H locs M O) (hl : lv_has ls 5 [(0, .ref (G.1 21)), (1, .int x1), (2, .int x2), (4, .int x4)]) (h : pX6_flowOf_b77 post ag27 ag38 x1 x2 x4 t0 M) : W p l e ({ frames := 1, cells := 0, slots := 0, locals := 24 } : Room) s m args below meth c H locs 0 0 Q (F0 m 77 ls [.int t0]) := by
  obtain ⟨hx, hb, hml, hown, hts⟩ := id hF
  unfold pX6_flowOf_b77 at h
  refine lv_istore_n (lv' := [(3, .int t0), (0, .ref (G.1 21)), (1, .int x1), (2, .int x2), (4, .int x4)]) hx hb dX6_flowOf_77 rfl hl (by decide) rfl (fun ls hl => ?_)
  refine lv_aload_n hx hb dX6_flowOf_78 rfl (lv_at hl 1 rfl) ?_
  refine zget (v := .ref (G.1 30)) hF hSt hH 21 (by decide) rfl (zE_21 _ _ _) (C := RX6) (T := TX6) (N := 31) rfl znX6_flowOf_X6 12 (by decide) (List.mem_of_getElem? (i := 1) rfl) rfl dX6_flowOf_79 ?_
  refine lv_iload hx hb dX6_flowOf_82 (lv_at hl 4 rfl) ?_
  refine lv_aload_n hx hb dX6_flowOf_84 rfl (lv_at hl 1 rfl) ?_
  refine zget (v := .ref (G.1 30)) hF hSt hH 21 (by decide) rfl (zE_21 _ _ _) (C := RX6) (T := TX6) (N := 31) rfl znX6_flowOf_X6 12 (by decide) (List.mem_of_getElem? (i := 1) rfl) rfl dX6_flowOf_85 ?_
  refine lv_iload hx hb dX6_flowOf_88 (lv_at hl 4 rfl) ?_
  obtain ⟨q90, h⟩ := h
  refine zzald hF hSt hH 30 (by decide) rfl (zE_30 _ _ _) q90 dX6_flowOf_90 ?_
  refine lv_if_ne (tgt := 98) hx hb dX6_flowOf_91 (by decide) (fun q91 => ?_) (fun q91 => ?_)
  · have h := h.1 q91
    refine lv_iconst (v := (0 : Int32)) hx hb dX6_flowOf_98 (by decide) ?_
    exact wX6_flowOf_b99 hF hSt hret hag27 hag38 x1 x2 t0 (0 : Int32) x4 M H locs ls hH (lv_sub hl [1, 2, 3, 0] rfl) h
  · have h := h.2 q91
    refine lv_iconst (v := (1 : Int32)) hx hb dX6_flowOf_94 (by decide) ?_
    refine lv_goto (tgt := 99) hx hb dX6_flowOf_95 (by decide) ?_
    exact wX6_flowOf_b99 hF hSt hret hag27 hag38 x1 x2 t0 (1 : Int32) x4 M H locs ls hH (lv_sub hl [1, 2, 3, 0] rfl) h
def pX6_flowOf_b38 (post : Int32 → zM → Prop) (ag27 : Int32 → Int32 → zM → Prop) (ag38 : Int32 → Int32 → Int32 → zM → Prop) (x1 : Int32) (x2 : Int32) (x3 : Int32) (M : zM) : Prop :=
  (x3 = 0 → pX6_seek M  (fun M107 => ag27 x1 (x2 + (1 : Int32)) M107)) ∧ (¬ (x3 = 0) → vp_in x3 12 ∧ vp_in (M.1 32 x3.toNatClampNeg) 30 ∧ ((M.1 30 ((M.1 32 x3.toNatClampNeg)).toNatClampNeg) = 0 → vp_in (M.1 32 x3.toNatClampNeg) 30 ∧ pX6_flowOf_b77 post ag27 ag38 x1 x2 (M.1 32 x3.toNatClampNeg) (M.1 24 ((M.1 32 x3.toNatClampNeg)).toNatClampNeg) M) ∧ (¬ ((M.1 30 ((M.1 32 x3.toNatClampNeg)).toNatClampNeg) = 0) → vp_in (M.1 32 x3.toNatClampNeg) 30 ∧ pX6_flowOf_b77 post ag27 ag38 x1 x2 (M.1 32 x3.toNatClampNeg) (M.1 25 ((M.1 32 x3.toNatClampNeg)).toNatClampNeg) M))
set_option maxHeartbeats 4000000 in
set_option maxRecDepth 100000 in
theorem wX6_flowOf_b38 {post : Int32 → zM → Prop} {ag27 : Int32 → Int32 → zM → Prop} {ag38 : Int32 → Int32 → Int32 → zM → Prop} (hF : CallFix p m c cX6_flowOf 5 s args wsX6_flowOf RX6) (hSt : zSt G s) (hret : zRi p l e ({ frames := 1, cells := 0, slots := 0, locals := 24 } : Room) s m args below meth c Q cX6_flowOf G false O post) (hag27 : ∀ (x1 : Int32) (x2 : Int32) (M : zM) (H : Heap) (locs : List Loc) (ls : Array Slot), ag27 x1 x2 M → zH G false s H locs M O → lv_has ls 5 [(0, .ref (G.1 21)), (1, .int x1), (2, .int x2)] → W p l e ({ frames := 1, cells := 0, slots := 0, locals := 24 } : Room) s m args below meth c H locs 0 0 Q (F0 m 27 ls [])) (hag38 : ∀ (x1 : Int32) (x2 : Int32) (x3 : Int32) (M : zM) (H : Heap) (locs : List Loc) (ls : Array Slot), ag38 x1 x2 x3 M → zH G false s H locs M O → lv_has ls 5 [(0, .ref (G.1 21)), (1, .int x1), (2, .int x2), (3, .int x3)] → W p l e ({ frames := 1, cells := 0, slots := 0, locals := 24 } : Room) s m args below meth c H locs 0 0 Q (F0 m 38 ls [])) (x1 : Int32) (x2 : Int32) (x3 : Int32) (M : zM) (H : Heap) (locs : List Loc) (ls : Array Slot) (hH : zH G false s H locs M O) (hl : lv_has ls 5 [(0, .ref (G.1 21)), (1, .int x1), (2, .int x2), (3, .int x3)]) (h : pX6_flowOf_b38 post ag27 ag38 x1 x2 x3 M) : W p l e ({ frames := 1, cells := 0, slots := 0, locals := 24 } : Room) s m args below meth c H locs 0 0 Q (F0 m 38 ls []) := by
  obtain ⟨hx, hb, hml, hown, hts⟩ := id hF
  unfold pX6_flowOf_b38 at h
  refine lv_iload_n hx hb dX6_flowOf_38 rfl (lv_at hl 3 rfl) ?_
  refine lv_if_eq (tgt := 103) hx hb dX6_flowOf_39 (by decide) (fun q39 => ?_) (fun q39 => ?_)
  · have h := h.1 q39
    refine lv_iinc (v := (x2 + (1 : Int32))) (lv' := [(2, .int (x2 + (1 : Int32))), (0, .ref (G.1 21)), (1, .int x1), (3, .int x3)]) hx hb dX6_flowOf_103 hl (k := 2) rfl rfl (by decide) rfl (fun ls hl => ?_)
    refine lv_aload_n hx hb dX6_flowOf_106 rfl (lv_at hl 1 rfl) ?_
    refine zcallv hH (va_runV (As := []) (rest := []) hF (kX6_seek l G M O _ h) (cwV 0 hts gX6_flowOf_X6_seek rfl rfl rfl ⟨rfl, zdX6_seek⟩ ⟨Nat.le_of_ble_eq_true rfl, Nat.le_of_ble_eq_true rfl⟩) (zpreV hSt hH 21 (by decide) rfl (zE_21 _ _ _) (q := (RX6, TX6, 31)) rfl []) rfl rfl hl.1 rfl (lv_room (Nat.le_of_ble_eq_true rfl)) dX6_flowOf_107 ⟨Nat.zero_le _, Nat.zero_le _⟩) (fun M107 H locs h hH => ?_)
    refine lv_goto (tgt := 27) hx hb dX6_flowOf_110 (by decide) ?_
    exact hag27 x1 (x2 + (1 : Int32)) M107 H locs ls h hH (lv_sub hl [1, 2, 0] rfl)
  · have h := h.2 q39
    refine lv_aload_n hx hb dX6_flowOf_42 rfl (lv_at hl 0 rfl) ?_
    refine zget (v := .ref (G.1 32)) hF hSt hH 21 (by decide) rfl (zE_21 _ _ _) (C := RX6) (T := TX6) (N := 31) rfl znX6_flowOf_X6 14 (by decide) (List.mem_of_getElem? (i := 3) rfl) rfl dX6_flowOf_43 ?_
    refine lv_iload_n hx hb dX6_flowOf_46 rfl (lv_at hl 3 rfl) ?_
    obtain ⟨q47, h⟩ := h
    refine zald hF hSt hH 32 (by decide) rfl (zE_32 _ _ _) q47 dX6_flowOf_47 ?_
    refine lv_istore (lv' := [(4, .int (M.1 32 x3.toNatClampNeg)), (0, .ref (G.1 21)), (1, .int x1), (2, .int x2), (3, .int x3)]) hx hb dX6_flowOf_48 hl (by decide) rfl (fun ls hl => ?_)
    refine lv_aload_n hx hb dX6_flowOf_50 rfl (lv_at hl 1 rfl) ?_
    refine zget (v := .ref (G.1 30)) hF hSt hH 21 (by decide) rfl (zE_21 _ _ _) (C := RX6) (T := TX6) (N := 31) rfl znX6_flowOf_X6 12 (by decide) (List.mem_of_getElem? (i := 1) rfl) rfl dX6_flowOf_51 ?_
    refine lv_iload hx hb dX6_flowOf_54 (lv_at hl 0 rfl) ?_
    obtain ⟨q56, h⟩ := h
    refine zzald hF hSt hH 30 (by decide) rfl (zE_30 _ _ _) q56 dX6_flowOf_56 ?_
    refine lv_if_eq (tgt := 70) hx hb dX6_flowOf_57 (by decide) (fun q57 => ?_) (fun q57 => ?_)
    · have h := h.1 q57
      refine lv_aload_n hx hb dX6_flowOf_70 rfl (lv_at hl 1 rfl) ?_
      refine zget (v := .ref (G.1 24)) hF hSt hH 21 (by decide) rfl (zE_21 _ _ _) (C := RX6) (T := TX6) (N := 31) rfl znX6_flowOf_X6 6 (by decide) (List.mem_of_getElem? (i := 5) rfl) rfl dX6_flowOf_71 ?_
      refine lv_iload hx hb dX6_flowOf_74 (lv_at hl 0 rfl) ?_
      obtain ⟨q76, h⟩ := h
      refine zald hF hSt hH 24 (by decide) rfl (zE_24 _ _ _) q76 dX6_flowOf_76 ?_
      exact wX6_flowOf_b77 hF hSt hret hag27 hag38 x1 x2 (M.1 32 x3.toNatClampNeg) (M.1 24 ((M.1 32 x3.toNatClampNeg)).toNatClampNeg) M H locs ls hH (lv_sub hl [1, 2, 3, 0] rfl) h
    · have h := h.2 q57
      refine lv_aload_n hx hb dX6_flowOf_60 rfl (lv_at hl 1 rfl) ?_
      refine zget (v := .ref (G.1 25)) hF hSt hH 21 (by decide) rfl (zE_21 _ _ _) (C := RX6) (T := TX6) (N := 31) rfl znX6_flowOf_X6 7 (by decide) (List.mem_of_getElem? (i := 4) rfl) rfl dX6_flowOf_61 ?_
      refine lv_iload hx hb dX6_flowOf_64 (lv_at hl 0 rfl) ?_
      obtain ⟨q66, h⟩ := h
      refine zald hF hSt hH 25 (by decide) rfl (zE_25 _ _ _) q66 dX6_flowOf_66 ?_
      refine lv_goto (tgt := 77) hx hb dX6_flowOf_67 (by decide) ?_
      exact wX6_flowOf_b77 hF hSt hret hag27 hag38 x1 x2 (M.1 32 x3.toNatClampNeg) (M.1 25 ((M.1 32 x3.toNatClampNeg)).toNatClampNeg) M H locs ls hH (lv_sub hl [1, 2, 3, 0] rfl) h
def pX6_flowOf_L38 (post : Int32 → zM → Prop) (ag27 : Int32 → Int32 → zM → Prop) (x1 : Int32) (x2 : Int32) (x3 : Int32) (M : zM) : Prop :=
  ∃ I : Nat → Int32 → Int32 → Int32 → zM → Prop, (∃ n, I n x1 x2 x3 M) ∧ ∀ n x1 x2 x3 M, I n x1 x2 x3 M → pX6_flowOf_b38 post ag27 (fun x1 x2 x3 M => ∃ k, k < n ∧ I k x1 x2 x3 M) x1 x2 x3 M
set_option maxHeartbeats 4000000 in
theorem wX6_flowOf_L38 {post : Int32 → zM → Prop} {ag27 : Int32 → Int32 → zM → Prop} (hF : CallFix p m c cX6_flowOf 5 s args wsX6_flowOf RX6) (hSt : zSt G s) (hret : zRi p l e ({ frames := 1, cells := 0, slots := 0, locals := 24 } : Room) s m args below meth c Q cX6_flowOf G false O post) (hag27 : ∀ (x1 : Int32) (x2 : Int32) (M : zM) (H : Heap) (locs : List Loc) (ls : Array Slot), ag27 x1 x2 M → zH G false s H locs M O → lv_has ls 5 [(0, .ref (G.1 21)), (1, .int x1), (2, .int x2)] → W p l e ({ frames := 1, cells := 0, slots := 0, locals := 24 } : Room) s m args below meth c H locs 0 0 Q (F0 m 27 ls [])) (x1 : Int32) (x2 : Int32) (x3 : Int32) (M : zM) (H : Heap) (locs : List Loc) (ls : Array Slot) (hH : zH G false s H locs M O) (hl : lv_has ls 5 [(0, .ref (G.1 21)), (1, .int x1), (2, .int x2), (3, .int x3)]) (h : pX6_flowOf_L38 post ag27 x1 x2 x3 M) : W p l e ({ frames := 1, cells := 0, slots := 0, locals := 24 } : Room) s m args below meth c H locs 0 0 Q (F0 m 38 ls []) := by
  obtain ⟨I, ⟨n, hI⟩, hs⟩ := h
  have key : ∀ (n : Nat) (x1 : Int32) (x2 : Int32) (x3 : Int32) (M : zM) (H : Heap) (locs : List Loc) (ls : Array Slot), I n x1 x2 x3 M → zH G false s H locs M O → lv_has ls 5 [(0, .ref (G.1 21)), (1, .int x1), (2, .int x2), (3, .int x3)] → W p l e ({ frames := 1, cells := 0, slots := 0, locals := 24 } : Room) s m args below meth c H locs 0 0 Q (F0 m 38 ls []) := by
    intro n
    induction n using Nat.strongRecOn with
    | _ n ih =>
      intro x1 x2 x3 M H locs ls hI hH hl
      exact wX6_flowOf_b38 hF hSt hret hag27 (fun x1 x2 x3 M H locs ls h hH hl => by obtain ⟨k, hk, hI⟩ := h; exact ih k hk x1 x2 x3 M H locs ls hI hH hl) x1 x2 x3 M H locs ls hH hl (hs n x1 x2 x3 M hI)
  exact key n x1 x2 x3 M H locs ls hI hH hl
def pX6_flowOf_b27 (post : Int32 → zM → Prop) (ag27 : Int32 → Int32 → zM → Prop) (x1 : Int32) (x2 : Int32) (M : zM) : Prop :=
  vp_in x1 12 ∧ ((M.1 31 x1.toNatClampNeg) = 0 → post x2 M) ∧ (¬ ((M.1 31 x1.toNatClampNeg) = 0) → pX6_flowOf_L38 post ag27 x1 x2 x1 M)
set_option maxHeartbeats 4000000 in
set_option maxRecDepth 100000 in
theorem wX6_flowOf_b27 {post : Int32 → zM → Prop} {ag27 : Int32 → Int32 → zM → Prop} (hF : CallFix p m c cX6_flowOf 5 s args wsX6_flowOf RX6) (hSt : zSt G s) (hret : zRi p l e ({ frames := 1, cells := 0, slots := 0, locals := 24 } : Room) s m args below meth c Q cX6_flowOf G false O post) (hag27 : ∀ (x1 : Int32) (x2 : Int32) (M : zM) (H : Heap) (locs : List Loc) (ls : Array Slot), ag27 x1 x2 M → zH G false s H locs M O → lv_has ls 5 [(0, .ref (G.1 21)), (1, .int x1), (2, .int x2)] → W p l e ({ frames := 1, cells := 0, slots := 0, locals := 24 } : Room) s m args below meth c H locs 0 0 Q (F0 m 27 ls [])) (x1 : Int32) (x2 : Int32) (M : zM) (H : Heap) (locs : List Loc) (ls : Array Slot) (hH : zH G false s H locs M O) (hl : lv_has ls 5 [(0, .ref (G.1 21)), (1, .int x1), (2, .int x2)]) (h : pX6_flowOf_b27 post ag27 x1 x2 M) : W p l e ({ frames := 1, cells := 0, slots := 0, locals := 24 } : Room) s m args below meth c H locs 0 0 Q (F0 m 27 ls []) := by
  obtain ⟨hx, hb, hml, hown, hts⟩ := id hF
  unfold pX6_flowOf_b27 at h
  refine lv_aload_n hx hb dX6_flowOf_27 rfl (lv_at hl 0 rfl) ?_
  refine zget (v := .ref (G.1 31)) hF hSt hH 21 (by decide) rfl (zE_21 _ _ _) (C := RX6) (T := TX6) (N := 31) rfl znX6_flowOf_X6 13 (by decide) (List.mem_of_getElem? (i := 2) rfl) rfl dX6_flowOf_28 ?_
  refine lv_iload_n hx hb dX6_flowOf_31 rfl (lv_at hl 1 rfl) ?_
  obtain ⟨q32, h⟩ := h
  refine zzald hF hSt hH 31 (by decide) rfl (zE_31 _ _ _) q32 dX6_flowOf_32 ?_
  refine lv_if_eq (tgt := 113) hx hb dX6_flowOf_33 (by decide) (fun q33 => ?_) (fun q33 => ?_)
  · have h := h.1 q33
    refine lv_iload_n hx hb dX6_flowOf_113 rfl (lv_at hl 2 rfl) ?_
    exact hret _ _ _ _ _ _ dX6_flowOf_114 h hH
  · have h := h.2 q33
    refine lv_iload_n hx hb dX6_flowOf_36 rfl (lv_at hl 1 rfl) ?_
    refine lv_istore_n (lv' := [(3, .int x1), (0, .ref (G.1 21)), (1, .int x1), (2, .int x2)]) hx hb dX6_flowOf_37 rfl hl (by decide) rfl (fun ls hl => ?_)
    exact wX6_flowOf_L38 hF hSt hret hag27 x1 x2 x1 M H locs ls hH (lv_sub hl [1, 2, 3, 0] rfl) h
def pX6_flowOf_L27 (post : Int32 → zM → Prop) (x1 : Int32) (x2 : Int32) (M : zM) : Prop :=
  ∃ I : Nat → Int32 → Int32 → zM → Prop, (∃ n, I n x1 x2 M) ∧ ∀ n x1 x2 M, I n x1 x2 M → pX6_flowOf_b27 post (fun x1 x2 M => ∃ k, k < n ∧ I k x1 x2 M) x1 x2 M
set_option maxHeartbeats 4000000 in
theorem wX6_flowOf_L27 {post : Int32 → zM → Prop}  (hF : CallFix p m c cX6_flowOf 5 s args wsX6_flowOf RX6) (hSt : zSt G s) (hret : zRi p l e ({ frames := 1, cells := 0, slots := 0, locals := 24 } : Room) s m args below meth c Q cX6_flowOf G false O post) (x1 : Int32) (x2 : Int32) (M : zM) (H : Heap) (locs : List Loc) (ls : Array Slot) (hH : zH G false s H locs M O) (hl : lv_has ls 5 [(0, .ref (G.1 21)), (1, .int x1), (2, .int x2)]) (h : pX6_flowOf_L27 post x1 x2 M) : W p l e ({ frames := 1, cells := 0, slots := 0, locals := 24 } : Room) s m args below meth c H locs 0 0 Q (F0 m 27 ls []) := by
  obtain ⟨I, ⟨n, hI⟩, hs⟩ := h
  have key : ∀ (n : Nat) (x1 : Int32) (x2 : Int32) (M : zM) (H : Heap) (locs : List Loc) (ls : Array Slot), I n x1 x2 M → zH G false s H locs M O → lv_has ls 5 [(0, .ref (G.1 21)), (1, .int x1), (2, .int x2)] → W p l e ({ frames := 1, cells := 0, slots := 0, locals := 24 } : Room) s m args below meth c H locs 0 0 Q (F0 m 27 ls []) := by
    intro n
    induction n using Nat.strongRecOn with
    | _ n ih =>
      intro x1 x2 M H locs ls hI hH hl
      exact wX6_flowOf_b27 hF hSt hret (fun x1 x2 M H locs ls h hH hl => by obtain ⟨k, hk, hI⟩ := h; exact ih k hk x1 x2 M H locs ls hI hH hl) x1 x2 M H locs ls hH hl (hs n x1 x2 M hI)
  exact key n x1 x2 M H locs ls hI hH hl
def pX6_flowOf_b2 (post : Int32 → zM → Prop) (ag2 : Int32 → Int32 → zM → Prop) (x1 : Int32) (x2 : Int32) (M : zM) : Prop :=
  ((30 : Int32) ≤ x2 → pX6_seek M  (fun M24 => pX6_flowOf_L27 post x1 (0 : Int32) M24)) ∧ (¬ ((30 : Int32) ≤ x2) → vp_in x2 30 ∧ ag2 x1 (x2 + (1 : Int32)) (zsi M 30 x2.toNatClampNeg (vp_nar .boolean (0 : Int32))))
set_option maxHeartbeats 4000000 in
set_option maxRecDepth 100000 in
theorem wX6_flowOf_b2 {post : Int32 → zM → Prop} {ag2 : Int32 → Int32 → zM → Prop} (hF : CallFix p m c cX6_flowOf 5 s args wsX6_flowOf RX6) (hSt : zSt G s) (hret : zRi p l e ({ frames := 1, cells := 0, slots := 0, locals := 24 } : Room) s m args below meth c Q cX6_flowOf G false O post) (hag2 : ∀ (x1 : Int32) (x2 : Int32) (M : zM) (H : Heap) (locs : List Loc) (ls : Array Slot), ag2 x1 x2 M → zH G false s H locs M O → lv_has ls 5 [(0, .ref (G.1 21)), (1, .int x1), (2, .int x2)] → W p l e ({ frames := 1, cells := 0, slots := 0, locals := 24 } : Room) s m args below meth c H locs 0 0 Q (F0 m 2 ls [])) (x1 : Int32) (x2 : Int32) (M : zM) (H : Heap) (locs : List Loc) (ls : Array Slot) (hH : zH G false s H locs M O) (hl : lv_has ls 5 [(0, .ref (G.1 21)), (1, .int x1), (2, .int x2)]) (h : pX6_flowOf_b2 post ag2 x1 x2 M) : W p l e ({ frames := 1, cells := 0, slots := 0, locals := 24 } : Room) s m args below meth c H locs 0 0 Q (F0 m 2 ls []) := by
  obtain ⟨hx, hb, hml, hown, hts⟩ := id hF
  unfold pX6_flowOf_b2 at h
  refine lv_iload_n hx hb dX6_flowOf_2 rfl (lv_at hl 2 rfl) ?_
  refine lv_bipush (v := (30 : Int32)) hx hb dX6_flowOf_3 (by decide) ?_
  refine lv_icmp_ge (tgt := 21) hx hb dX6_flowOf_5 (by decide) (fun q5 => ?_) (fun q5 => ?_)
  · have h := h.1 q5
    refine lv_iconst (v := (0 : Int32)) hx hb dX6_flowOf_21 (by decide) ?_
    refine lv_istore_n (lv' := [(2, .int (0 : Int32)), (0, .ref (G.1 21)), (1, .int x1)]) hx hb dX6_flowOf_22 rfl hl (by decide) rfl (fun ls hl => ?_)
    refine lv_aload_n hx hb dX6_flowOf_23 rfl (lv_at hl 1 rfl) ?_
    refine zcallv hH (va_runV (As := []) (rest := []) hF (kX6_seek l G M O _ h) (cwV 0 hts gX6_flowOf_X6_seek rfl rfl rfl ⟨rfl, zdX6_seek⟩ ⟨Nat.le_of_ble_eq_true rfl, Nat.le_of_ble_eq_true rfl⟩) (zpreV hSt hH 21 (by decide) rfl (zE_21 _ _ _) (q := (RX6, TX6, 31)) rfl []) rfl rfl hl.1 rfl (lv_room (Nat.le_of_ble_eq_true rfl)) dX6_flowOf_24 ⟨Nat.zero_le _, Nat.zero_le _⟩) (fun M24 H locs h hH => ?_)
    exact wX6_flowOf_L27 hF hSt hret x1 (0 : Int32) M24 H locs ls hH (lv_sub hl [1, 2, 0] rfl) h
  · have h := h.2 q5
    refine lv_aload_n hx hb dX6_flowOf_8 rfl (lv_at hl 0 rfl) ?_
    refine zget (v := .ref (G.1 30)) hF hSt hH 21 (by decide) rfl (zE_21 _ _ _) (C := RX6) (T := TX6) (N := 31) rfl znX6_flowOf_X6 12 (by decide) (List.mem_of_getElem? (i := 1) rfl) rfl dX6_flowOf_9 ?_
    refine lv_iload_n hx hb dX6_flowOf_12 rfl (lv_at hl 2 rfl) ?_
    refine lv_iconst (v := (0 : Int32)) hx hb dX6_flowOf_13 (by decide) ?_
    obtain ⟨q14, h⟩ := h
    refine zzast hF hSt hH 30 (by decide) rfl (zE_30 _) (x := (0 : Int32)) q14 dX6_flowOf_14 (fun H locs hH => ?_)
    refine lv_iinc (v := (x2 + (1 : Int32))) (lv' := [(2, .int (x2 + (1 : Int32))), (0, .ref (G.1 21)), (1, .int x1)]) hx hb dX6_flowOf_15 hl (k := 2) rfl rfl (by decide) rfl (fun ls hl => ?_)
    refine lv_goto (tgt := 2) hx hb dX6_flowOf_18 (by decide) ?_
    exact hag2 x1 (x2 + (1 : Int32)) (zsi M 30 x2.toNatClampNeg (vp_nar .boolean (0 : Int32))) H locs ls h hH (lv_sub hl [1, 2, 0] rfl)
def pX6_flowOf_L2 (post : Int32 → zM → Prop) (x1 : Int32) (x2 : Int32) (M : zM) : Prop :=
  ∃ I : Nat → Int32 → Int32 → zM → Prop, (∃ n, I n x1 x2 M) ∧ ∀ n x1 x2 M, I n x1 x2 M → pX6_flowOf_b2 post (fun x1 x2 M => ∃ k, k < n ∧ I k x1 x2 M) x1 x2 M
set_option maxHeartbeats 4000000 in
theorem wX6_flowOf_L2 {post : Int32 → zM → Prop}  (hF : CallFix p m c cX6_flowOf 5 s args wsX6_flowOf RX6) (hSt : zSt G s) (hret : zRi p l e ({ frames := 1, cells := 0, slots := 0, locals := 24 } : Room) s m args below meth c Q cX6_flowOf G false O post) (x1 : Int32) (x2 : Int32) (M : zM) (H : Heap) (locs : List Loc) (ls : Array Slot) (hH : zH G false s H locs M O) (hl : lv_has ls 5 [(0, .ref (G.1 21)), (1, .int x1), (2, .int x2)]) (h : pX6_flowOf_L2 post x1 x2 M) : W p l e ({ frames := 1, cells := 0, slots := 0, locals := 24 } : Room) s m args below meth c H locs 0 0 Q (F0 m 2 ls []) := by
  obtain ⟨I, ⟨n, hI⟩, hs⟩ := h
  have key : ∀ (n : Nat) (x1 : Int32) (x2 : Int32) (M : zM) (H : Heap) (locs : List Loc) (ls : Array Slot), I n x1 x2 M → zH G false s H locs M O → lv_has ls 5 [(0, .ref (G.1 21)), (1, .int x1), (2, .int x2)] → W p l e ({ frames := 1, cells := 0, slots := 0, locals := 24 } : Room) s m args below meth c H locs 0 0 Q (F0 m 2 ls []) := by
    intro n
    induction n using Nat.strongRecOn with
    | _ n ih =>
      intro x1 x2 M H locs ls hI hH hl
      exact wX6_flowOf_b2 hF hSt hret (fun x1 x2 M H locs ls h hH hl => by obtain ⟨k, hk, hI⟩ := h; exact ih k hk x1 x2 M H locs ls hI hH hl) x1 x2 M H locs ls hH hl (hs n x1 x2 M hI)
  exact key n x1 x2 M H locs ls hI hH hl
def pX6_flowOf (M : zM) (x1 : Int32) (post : Int32 → zM → Prop) : Prop :=
  pX6_flowOf_L2 post x1 (0 : Int32) M
set_option maxHeartbeats 4000000 in
set_option maxRecDepth 100000 in
theorem wX6_flowOf {M : zM} {post : Int32 → zM → Prop} (hF : CallFix p m c cX6_flowOf 5 s args wsX6_flowOf RX6) (hSt : zSt G s) (hret : zRi p l e ({ frames := 1, cells := 0, slots := 0, locals := 24 } : Room) s m args below meth c Q cX6_flowOf G false O post) (x1 : Int32) (H : Heap) (locs : List Loc) (ls : Array Slot) (hH : zH G false s H locs M O) (hl : lv_has ls 5 [(0, .ref (G.1 21)), (1, .int x1)]) (h : pX6_flowOf M x1 post) : W p l e ({ frames := 1, cells := 0, slots := 0, locals := 24 } : Room) s m args below meth c H locs 0 0 Q (F0 m 0 ls []) := by
  obtain ⟨hx, hb, hml, hown, hts⟩ := id hF
  unfold pX6_flowOf at h
  refine lv_iconst (v := (0 : Int32)) hx hb dX6_flowOf_0 (by decide) ?_
  refine lv_istore_n (lv' := [(2, .int (0 : Int32)), (0, .ref (G.1 21)), (1, .int x1)]) hx hb dX6_flowOf_1 rfl hl (by decide) rfl (fun ls hl => ?_)
  exact wX6_flowOf_L2 hF hSt hret x1 (0 : Int32) M H locs ls hH (lv_sub hl [1, 2, 0] rfl) h
set_option maxRecDepth 100000 in
theorem kX6_flowOf (l : Launch) (G : zG) (M O : zM) (x1 : Int32) (post : Int32 → zM → Prop) (h : pX6_flowOf M x1 post) : Met l yX6_flowOf wsX6_flowOf ({ frames := 1, cells := 0, slots := 0, locals := 24 } : Room) (zPc G false M O [.ref (G.1 21), .int x1]) (va_Qi post (zB G false O) (zAA G)) 0 0 (zAA G) :=
  zmet_i (by decide) rfl (Nat.le_of_ble_eq_true rfl) (fun hF hSt hret H locs ls hH hl => wX6_flowOf hF hSt hret x1 H locs ls hH hl h)
end
theorem znX6_flow_X6 : ∀ w ∈ wsX60, w ∈ wsX6_flow := fun _ h => List.mem_cons_of_mem _ (List.mem_append_right _ h)
theorem zdX6_flow : yX6_flow.cls ≠ "java/lang/invoke/MethodHandle" ∧ yX6_flow.cls ≠ "java/lang/invoke/VarHandle" ∧ (parseMethodDescriptor yX6_flow.desc).map (fun d => d.parameters.length) = some 1 := by decide +kernel
-- MixingRelaysModel flow(I)I
section
variable {p : Program} {l : Launch} {e : Env} {s : State} {m : MethodId} {args : Array Value} {below : List Frame} {meth : Method} {c : Code} {Q : State → Prop} {G : zG} {O : zM}
def pX6_flow_b24 (post : Int32 → zM → Prop) (t0 : Int32) (M : zM) : Prop :=
  post t0 M
set_option maxHeartbeats 4000000 in
set_option maxRecDepth 100000 in
theorem wX6_flow_b24 {post : Int32 → zM → Prop}  (hF : CallFix p m c cX6_flow 2 s args wsX6_flow RX6) (hSt : zSt G s) (hret : zRi p l e ({ frames := 2, cells := 0, slots := 0, locals := 48 } : Room) s m args below meth c Q cX6_flow G false O post) (t0 : Int32) (M : zM) (H : Heap) (locs : List Loc) (ls : Array Slot) (hH : zH G false s H locs M O) (hl : lv_has ls 2 []) (h : pX6_flow_b24 post t0 M) : W p l e ({ frames := 2, cells := 0, slots := 0, locals := 48 } : Room) s m args below meth c H locs 0 0 Q (F0 m 24 ls [.int t0]) := by
  obtain ⟨hx, hb, hml, hown, hts⟩ := id hF
  unfold pX6_flow_b24 at h
  exact hret _ _ _ _ _ _ dX6_flow_24 h hH
def pX6_flow (M : zM) (x1 : Int32) (post : Int32 → zM → Prop) : Prop :=
  pX6_isRelay M x1 (fun r2 => (¬ (r2 = 0) → (¬ (x1 = 0) → pX6_flowOf M x1 (fun r21 M21 => pX6_flow_b24 post r21 M21)) ∧ (x1 = 0 → pX6_flow_b24 post (-2 : Int32) M)) ∧ (r2 = 0 → post (-1 : Int32) M))
set_option maxHeartbeats 4000000 in
set_option maxRecDepth 100000 in
theorem wX6_flow {M : zM} {post : Int32 → zM → Prop} (hF : CallFix p m c cX6_flow 2 s args wsX6_flow RX6) (hSt : zSt G s) (hret : zRi p l e ({ frames := 2, cells := 0, slots := 0, locals := 48 } : Room) s m args below meth c Q cX6_flow G false O post) (x1 : Int32) (H : Heap) (locs : List Loc) (ls : Array Slot) (hH : zH G false s H locs M O) (hl : lv_has ls 2 [(0, .ref (G.1 21)), (1, .int x1)]) (h : pX6_flow M x1 post) : W p l e ({ frames := 2, cells := 0, slots := 0, locals := 48 } : Room) s m args below meth c H locs 0 0 Q (F0 m 0 ls []) := by
  obtain ⟨hx, hb, hml, hown, hts⟩ := id hF
  unfold pX6_flow at h
  refine lv_aload_n hx hb dX6_flow_0 rfl (lv_at hl 0 rfl) ?_
  refine lv_iload_n hx hb dX6_flow_1 rfl (lv_at hl 1 rfl) ?_
  refine zcalliP hH (va_runV (As := [.int x1]) (rest := []) hF (kX6_isRelay l G M O x1 _ h) (cwV 1 hts gX6_flow_X6_isRelay rfl rfl rfl ⟨rfl, zdX6_isRelay⟩ ⟨Nat.le_of_ble_eq_true rfl, Nat.le_of_ble_eq_true rfl⟩) (zpreV hSt hH 21 (by decide) rfl (zE_21 _ _ _) (q := (RX6, TX6, 31)) rfl [.int x1]) rfl rfl hl.1 rfl (lv_room (Nat.le_of_ble_eq_true rfl)) dX6_flow_2 ⟨Nat.zero_le _, Nat.zero_le _⟩) (fun r2 H locs h hH => ?_)
  refine lv_if_ne (tgt := 10) hx hb dX6_flow_5 (by decide) (fun q5 => ?_) (fun q5 => ?_)
  · have h := h.1 q5
    refine lv_iload_n hx hb dX6_flow_10 rfl (lv_at hl 1 rfl) ?_
    refine lv_if_ne (tgt := 19) hx hb dX6_flow_11 (by decide) (fun q11 => ?_) (fun q11 => ?_)
    · have h := h.1 q11
      refine lv_aload_n hx hb dX6_flow_19 rfl (lv_at hl 0 rfl) ?_
      refine lv_iload_n hx hb dX6_flow_20 rfl (lv_at hl 1 rfl) ?_
      refine zcalli hH (va_runV (As := [.int x1]) (rest := []) hF (kX6_flowOf l G M O x1 _ h) (cwV 1 hts gX6_flow_X6_flowOf rfl rfl rfl ⟨rfl, zdX6_flowOf⟩ ⟨Nat.le_of_ble_eq_true rfl, Nat.le_of_ble_eq_true rfl⟩) (zpreV hSt hH 21 (by decide) rfl (zE_21 _ _ _) (q := (RX6, TX6, 31)) rfl [.int x1]) rfl rfl hl.1 rfl (lv_room (Nat.le_of_ble_eq_true rfl)) dX6_flow_21 ⟨Nat.zero_le _, Nat.zero_le _⟩) (fun r21 M21 H locs h hH => ?_)
      exact wX6_flow_b24 hF hSt hret r21 M21 H locs ls hH (lv_sub hl [] rfl) h
    · have h := h.2 q11
      refine lv_bipush (v := (-2 : Int32)) hx hb dX6_flow_14 (by decide) ?_
      refine lv_goto (tgt := 24) hx hb dX6_flow_16 (by decide) ?_
      exact wX6_flow_b24 hF hSt hret (-2 : Int32) M H locs ls hH (lv_sub hl [] rfl) h
  · have h := h.2 q5
    refine lv_iconst (v := (-1 : Int32)) hx hb dX6_flow_8 (by decide) ?_
    exact hret _ _ _ _ _ _ dX6_flow_9 h hH
set_option maxRecDepth 100000 in
theorem kX6_flow (l : Launch) (G : zG) (M O : zM) (x1 : Int32) (post : Int32 → zM → Prop) (h : pX6_flow M x1 post) : Met l yX6_flow wsX6_flow ({ frames := 2, cells := 0, slots := 0, locals := 48 } : Room) (zPc G false M O [.ref (G.1 21), .int x1]) (va_Qi post (zB G false O) (zAA G)) 0 0 (zAA G) :=
  zmet_i (by decide) rfl (Nat.le_of_ble_eq_true rfl) (fun hF hSt hret H locs ls hH hl => wX6_flow hF hSt hret x1 H locs ls hH hl h)
end
theorem znX6_cut_X6 : ∀ w ∈ wsX60, w ∈ wsX6_cut := fun _ h => List.mem_cons_of_mem _ (List.mem_append_right _ h)
theorem zdX6_cut : yX6_cut.cls ≠ "java/lang/invoke/MethodHandle" ∧ yX6_cut.cls ≠ "java/lang/invoke/VarHandle" ∧ (parseMethodDescriptor yX6_cut.desc).map (fun d => d.parameters.length) = some 2 := by decide +kernel
-- MixingRelaysModel cut(II)I
section
variable {p : Program} {l : Launch} {e : Env} {s : State} {m : MethodId} {args : Array Value} {below : List Frame} {meth : Method} {c : Code} {Q : State → Prop} {G : zG} {O : zM}
def pX6_cut_b12 (post : Int32 → zM → Prop) (M : zM) : Prop :=
  post (-1 : Int32) M
set_option maxHeartbeats 4000000 in
set_option maxRecDepth 100000 in
theorem wX6_cut_b12 {post : Int32 → zM → Prop}  (hF : CallFix p m c cX6_cut 6 s args wsX6_cut RX6) (hSt : zSt G s) (hret : zRi p l e ({ frames := 2, cells := 0, slots := 0, locals := 48 } : Room) s m args below meth c Q cX6_cut G false O post) (M : zM) (H : Heap) (locs : List Loc) (ls : Array Slot) (hH : zH G false s H locs M O) (hl : lv_has ls 6 []) (h : pX6_cut_b12 post M) : W p l e ({ frames := 2, cells := 0, slots := 0, locals := 48 } : Room) s m args below meth c H locs 0 0 Q (F0 m 12 ls []) := by
  obtain ⟨hx, hb, hml, hown, hts⟩ := id hF
  unfold pX6_cut_b12 at h
  refine lv_iconst (v := (-1 : Int32)) hx hb dX6_cut_12 (by decide) ?_
  exact hret _ _ _ _ _ _ dX6_cut_13 h hH
def pX6_cut_b96 (post : Int32 → zM → Prop) (ag33 : Int32 → Int32 → zM → Prop) (x4 : Int32) (x5 : Int32) (M : zM) : Prop :=
  ag33 x4 (x5 + (1 : Int32)) M
set_option maxHeartbeats 4000000 in
set_option maxRecDepth 100000 in
theorem wX6_cut_b96 {post : Int32 → zM → Prop} {ag33 : Int32 → Int32 → zM → Prop} (hF : CallFix p m c cX6_cut 6 s args wsX6_cut RX6) (hSt : zSt G s) (hret : zRi p l e ({ frames := 2, cells := 0, slots := 0, locals := 48 } : Room) s m args below meth c Q cX6_cut G false O post) (hag33 : ∀ (x4 : Int32) (x5 : Int32) (M : zM) (H : Heap) (locs : List Loc) (ls : Array Slot), ag33 x4 x5 M → zH G false s H locs M O → lv_has ls 6 [(0, .ref (G.1 21)), (4, .int x4), (5, .int x5)] → W p l e ({ frames := 2, cells := 0, slots := 0, locals := 48 } : Room) s m args below meth c H locs 0 0 Q (F0 m 33 ls [])) (x4 : Int32) (x5 : Int32) (M : zM) (H : Heap) (locs : List Loc) (ls : Array Slot) (hH : zH G false s H locs M O) (hl : lv_has ls 6 [(0, .ref (G.1 21)), (4, .int x4), (5, .int x5)]) (h : pX6_cut_b96 post ag33 x4 x5 M) : W p l e ({ frames := 2, cells := 0, slots := 0, locals := 48 } : Room) s m args below meth c H locs 0 0 Q (F0 m 96 ls []) := by
  obtain ⟨hx, hb, hml, hown, hts⟩ := id hF
  unfold pX6_cut_b96 at h
  refine lv_iinc (v := (x5 + (1 : Int32))) (lv' := [(5, .int (x5 + (1 : Int32))), (0, .ref (G.1 21)), (4, .int x4)]) hx hb dX6_cut_96 hl (k := 2) rfl rfl (by decide) rfl (fun ls hl => ?_)
  refine lv_goto (tgt := 33) hx hb dX6_cut_99 (by decide) ?_
  exact hag33 x4 (x5 + (1 : Int32)) M H locs ls h hH (lv_sub hl [1, 2, 0] rfl)
def pX6_cut_b33 (post : Int32 → zM → Prop) (ag33 : Int32 → Int32 → zM → Prop) (x4 : Int32) (x5 : Int32) (M : zM) : Prop :=
  ((M.1 21 2) ≤ x5 → post (-1 : Int32) M) ∧ (¬ ((M.1 21 2) ≤ x5) → vp_in x5 30 ∧ (¬ ((M.1 27 x5.toNatClampNeg) = 0) → pX6_cut_b96 post ag33 x4 x5 M) ∧ ((M.1 27 x5.toNatClampNeg) = 0 → vp_in x5 30 ∧ vp_in (M.1 24 x5.toNatClampNeg) 12 ∧ ((M.1 31 ((M.1 24 x5.toNatClampNeg)).toNatClampNeg) = 0 → pX6_cut_b96 post ag33 x4 x5 M) ∧ (¬ ((M.1 31 ((M.1 24 x5.toNatClampNeg)).toNatClampNeg) = 0) → vp_in x5 30 ∧ vp_in (M.1 25 x5.toNatClampNeg) 12 ∧ ((M.1 31 ((M.1 25 x5.toNatClampNeg)).toNatClampNeg) = 0 → (¬ (x4 = 0) → pX6_cut_b96 post ag33 (x4 + (-1 : Int32)) x5 M) ∧ (x4 = 0 → post x5 M)) ∧ (¬ ((M.1 31 ((M.1 25 x5.toNatClampNeg)).toNatClampNeg) = 0) → pX6_cut_b96 post ag33 x4 x5 M))))
set_option maxHeartbeats 4000000 in
set_option maxRecDepth 100000 in
theorem wX6_cut_b33 {post : Int32 → zM → Prop} {ag33 : Int32 → Int32 → zM → Prop} (hF : CallFix p m c cX6_cut 6 s args wsX6_cut RX6) (hSt : zSt G s) (hret : zRi p l e ({ frames := 2, cells := 0, slots := 0, locals := 48 } : Room) s m args below meth c Q cX6_cut G false O post) (hag33 : ∀ (x4 : Int32) (x5 : Int32) (M : zM) (H : Heap) (locs : List Loc) (ls : Array Slot), ag33 x4 x5 M → zH G false s H locs M O → lv_has ls 6 [(0, .ref (G.1 21)), (4, .int x4), (5, .int x5)] → W p l e ({ frames := 2, cells := 0, slots := 0, locals := 48 } : Room) s m args below meth c H locs 0 0 Q (F0 m 33 ls [])) (x4 : Int32) (x5 : Int32) (M : zM) (H : Heap) (locs : List Loc) (ls : Array Slot) (hH : zH G false s H locs M O) (hl : lv_has ls 6 [(0, .ref (G.1 21)), (4, .int x4), (5, .int x5)]) (h : pX6_cut_b33 post ag33 x4 x5 M) : W p l e ({ frames := 2, cells := 0, slots := 0, locals := 48 } : Room) s m args below meth c H locs 0 0 Q (F0 m 33 ls []) := by
  obtain ⟨hx, hb, hml, hown, hts⟩ := id hF
  unfold pX6_cut_b33 at h
  refine lv_iload hx hb dX6_cut_33 (lv_at hl 2 rfl) ?_
  refine lv_aload_n hx hb dX6_cut_35 rfl (lv_at hl 0 rfl) ?_
  refine zget (v := .int (M.1 21 2)) hF hSt hH 21 (by decide) rfl (zE_21 _ _ _) (C := RX6) (T := TX6) (N := 31) rfl znX6_cut_X6 2 (by decide) (List.mem_of_getElem? (i := 1) rfl) rfl dX6_cut_36 ?_
  refine lv_icmp_ge (tgt := 102) hx hb dX6_cut_39 (by decide) (fun q39 => ?_) (fun q39 => ?_)
  · have h := h.1 q39
    refine lv_iconst (v := (-1 : Int32)) hx hb dX6_cut_102 (by decide) ?_
    exact hret _ _ _ _ _ _ dX6_cut_103 h hH
  · have h := h.2 q39
    refine lv_aload_n hx hb dX6_cut_42 rfl (lv_at hl 0 rfl) ?_
    refine zget (v := .ref (G.1 27)) hF hSt hH 21 (by decide) rfl (zE_21 _ _ _) (C := RX6) (T := TX6) (N := 31) rfl znX6_cut_X6 9 (by decide) (List.mem_of_getElem? (i := 2) rfl) rfl dX6_cut_43 ?_
    refine lv_iload hx hb dX6_cut_46 (lv_at hl 2 rfl) ?_
    obtain ⟨q48, h⟩ := h
    refine zzald hF hSt hH 27 (by decide) rfl (zE_27 _ _ _) q48 dX6_cut_48 ?_
    refine lv_if_ne (tgt := 96) hx hb dX6_cut_49 (by decide) (fun q49 => ?_) (fun q49 => ?_)
    · have h := h.1 q49
      exact wX6_cut_b96 hF hSt hret hag33 x4 x5 M H locs ls hH (lv_sub hl [0, 1, 2] rfl) h
    · have h := h.2 q49
      refine lv_aload_n hx hb dX6_cut_52 rfl (lv_at hl 0 rfl) ?_
      refine zget (v := .ref (G.1 31)) hF hSt hH 21 (by decide) rfl (zE_21 _ _ _) (C := RX6) (T := TX6) (N := 31) rfl znX6_cut_X6 13 (by decide) (List.mem_of_getElem? (i := 3) rfl) rfl dX6_cut_53 ?_
      refine lv_aload_n hx hb dX6_cut_56 rfl (lv_at hl 0 rfl) ?_
      refine zget (v := .ref (G.1 24)) hF hSt hH 21 (by decide) rfl (zE_21 _ _ _) (C := RX6) (T := TX6) (N := 31) rfl znX6_cut_X6 6 (by decide) (List.mem_of_getElem? (i := 4) rfl) rfl dX6_cut_57 ?_
      refine lv_iload hx hb dX6_cut_60 (lv_at hl 2 rfl) ?_
      obtain ⟨q62, h⟩ := h
      refine zald hF hSt hH 24 (by decide) rfl (zE_24 _ _ _) q62 dX6_cut_62 ?_
      obtain ⟨q63, h⟩ := h
      refine zzald hF hSt hH 31 (by decide) rfl (zE_31 _ _ _) q63 dX6_cut_63 ?_
      refine lv_if_eq (tgt := 96) hx hb dX6_cut_64 (by decide) (fun q64 => ?_) (fun q64 => ?_)
      · have h := h.1 q64
        exact wX6_cut_b96 hF hSt hret hag33 x4 x5 M H locs ls hH (lv_sub hl [0, 1, 2] rfl) h
      · have h := h.2 q64
        refine lv_aload_n hx hb dX6_cut_67 rfl (lv_at hl 0 rfl) ?_
        refine zget (v := .ref (G.1 31)) hF hSt hH 21 (by decide) rfl (zE_21 _ _ _) (C := RX6) (T := TX6) (N := 31) rfl znX6_cut_X6 13 (by decide) (List.mem_of_getElem? (i := 3) rfl) rfl dX6_cut_68 ?_
        refine lv_aload_n hx hb dX6_cut_71 rfl (lv_at hl 0 rfl) ?_
        refine zget (v := .ref (G.1 25)) hF hSt hH 21 (by decide) rfl (zE_21 _ _ _) (C := RX6) (T := TX6) (N := 31) rfl znX6_cut_X6 7 (by decide) (List.mem_of_getElem? (i := 5) rfl) rfl dX6_cut_72 ?_
        refine lv_iload hx hb dX6_cut_75 (lv_at hl 2 rfl) ?_
        obtain ⟨q77, h⟩ := h
        refine zald hF hSt hH 25 (by decide) rfl (zE_25 _ _ _) q77 dX6_cut_77 ?_
        obtain ⟨q78, h⟩ := h
        refine zzald hF hSt hH 31 (by decide) rfl (zE_31 _ _ _) q78 dX6_cut_78 ?_
        refine lv_if_eq (tgt := 85) hx hb dX6_cut_79 (by decide) (fun q79 => ?_) (fun q79 => ?_)
        · have h := h.1 q79
          refine lv_iload hx hb dX6_cut_85 (lv_at hl 1 rfl) ?_
          refine lv_if_ne (tgt := 93) hx hb dX6_cut_87 (by decide) (fun q87 => ?_) (fun q87 => ?_)
          · have h := h.1 q87
            refine lv_iinc (v := (x4 + (-1 : Int32))) (lv' := [(4, .int (x4 + (-1 : Int32))), (0, .ref (G.1 21)), (5, .int x5)]) hx hb dX6_cut_93 hl (k := 1) rfl rfl (by decide) rfl (fun ls hl => ?_)
            exact wX6_cut_b96 hF hSt hret hag33 (x4 + (-1 : Int32)) x5 M H locs ls hH (lv_sub hl [1, 0, 2] rfl) h
          · have h := h.2 q87
            refine lv_iload hx hb dX6_cut_90 (lv_at hl 2 rfl) ?_
            exact hret _ _ _ _ _ _ dX6_cut_92 h hH
        · have h := h.2 q79
          refine lv_goto (tgt := 96) hx hb dX6_cut_82 (by decide) ?_
          exact wX6_cut_b96 hF hSt hret hag33 x4 x5 M H locs ls hH (lv_sub hl [0, 1, 2] rfl) h
def pX6_cut_L33 (post : Int32 → zM → Prop) (x4 : Int32) (x5 : Int32) (M : zM) : Prop :=
  ∃ I : Nat → Int32 → Int32 → zM → Prop, (∃ n, I n x4 x5 M) ∧ ∀ n x4 x5 M, I n x4 x5 M → pX6_cut_b33 post (fun x4 x5 M => ∃ k, k < n ∧ I k x4 x5 M) x4 x5 M
set_option maxHeartbeats 4000000 in
theorem wX6_cut_L33 {post : Int32 → zM → Prop}  (hF : CallFix p m c cX6_cut 6 s args wsX6_cut RX6) (hSt : zSt G s) (hret : zRi p l e ({ frames := 2, cells := 0, slots := 0, locals := 48 } : Room) s m args below meth c Q cX6_cut G false O post) (x4 : Int32) (x5 : Int32) (M : zM) (H : Heap) (locs : List Loc) (ls : Array Slot) (hH : zH G false s H locs M O) (hl : lv_has ls 6 [(0, .ref (G.1 21)), (4, .int x4), (5, .int x5)]) (h : pX6_cut_L33 post x4 x5 M) : W p l e ({ frames := 2, cells := 0, slots := 0, locals := 48 } : Room) s m args below meth c H locs 0 0 Q (F0 m 33 ls []) := by
  obtain ⟨I, ⟨n, hI⟩, hs⟩ := h
  have key : ∀ (n : Nat) (x4 : Int32) (x5 : Int32) (M : zM) (H : Heap) (locs : List Loc) (ls : Array Slot), I n x4 x5 M → zH G false s H locs M O → lv_has ls 6 [(0, .ref (G.1 21)), (4, .int x4), (5, .int x5)] → W p l e ({ frames := 2, cells := 0, slots := 0, locals := 48 } : Room) s m args below meth c H locs 0 0 Q (F0 m 33 ls []) := by
    intro n
    induction n using Nat.strongRecOn with
    | _ n ih =>
      intro x4 x5 M H locs ls hI hH hl
      exact wX6_cut_b33 hF hSt hret (fun x4 x5 M H locs ls h hH hl => by obtain ⟨k, hk, hI⟩ := h; exact ih k hk x4 x5 M H locs ls hI hH hl) x4 x5 M H locs ls hH hl (hs n x4 x5 M hI)
  exact key n x4 x5 M H locs ls hI hH hl
def pX6_cut (M : zM) (x1 : Int32) (x2 : Int32) (post : Int32 → zM → Prop) : Prop :=
  pX6_isRelay M x1 (fun r2 => (r2 = 0 → pX6_cut_b12 post M) ∧ (¬ (r2 = 0) → (0 ≤ x2 → (¬ (x1 = 0) → pX6_flowOf M x1 (fun r23 M23 => pX6_cut_L33 post x2 (0 : Int32) M23)) ∧ (x1 = 0 → post (-2 : Int32) M)) ∧ (¬ (0 ≤ x2) → pX6_cut_b12 post M)))
set_option maxHeartbeats 4000000 in
set_option maxRecDepth 100000 in
theorem wX6_cut {M : zM} {post : Int32 → zM → Prop} (hF : CallFix p m c cX6_cut 6 s args wsX6_cut RX6) (hSt : zSt G s) (hret : zRi p l e ({ frames := 2, cells := 0, slots := 0, locals := 48 } : Room) s m args below meth c Q cX6_cut G false O post) (x1 : Int32) (x2 : Int32) (H : Heap) (locs : List Loc) (ls : Array Slot) (hH : zH G false s H locs M O) (hl : lv_has ls 6 [(0, .ref (G.1 21)), (1, .int x1), (2, .int x2)]) (h : pX6_cut M x1 x2 post) : W p l e ({ frames := 2, cells := 0, slots := 0, locals := 48 } : Room) s m args below meth c H locs 0 0 Q (F0 m 0 ls []) := by
  obtain ⟨hx, hb, hml, hown, hts⟩ := id hF
  unfold pX6_cut at h
  refine lv_aload_n hx hb dX6_cut_0 rfl (lv_at hl 0 rfl) ?_
  refine lv_iload_n hx hb dX6_cut_1 rfl (lv_at hl 1 rfl) ?_
  refine zcalliP hH (va_runV (As := [.int x1]) (rest := []) hF (kX6_isRelay l G M O x1 _ h) (cwV 1 hts gX6_cut_X6_isRelay rfl rfl rfl ⟨rfl, zdX6_isRelay⟩ ⟨Nat.le_of_ble_eq_true rfl, Nat.le_of_ble_eq_true rfl⟩) (zpreV hSt hH 21 (by decide) rfl (zE_21 _ _ _) (q := (RX6, TX6, 31)) rfl [.int x1]) rfl rfl hl.1 rfl (lv_room (Nat.le_of_ble_eq_true rfl)) dX6_cut_2 ⟨Nat.zero_le _, Nat.zero_le _⟩) (fun r2 H locs h hH => ?_)
  refine lv_if_eq (tgt := 12) hx hb dX6_cut_5 (by decide) (fun q5 => ?_) (fun q5 => ?_)
  · have h := h.1 q5
    exact wX6_cut_b12 hF hSt hret M H locs ls hH (lv_sub hl [] rfl) h
  · have h := h.2 q5
    refine lv_iload_n hx hb dX6_cut_8 rfl (lv_at hl 2 rfl) ?_
    refine lv_if_ge (tgt := 14) hx hb dX6_cut_9 (by decide) (fun q9 => ?_) (fun q9 => ?_)
    · have h := h.1 q9
      refine lv_iload_n hx hb dX6_cut_14 rfl (lv_at hl 1 rfl) ?_
      refine lv_if_ne (tgt := 21) hx hb dX6_cut_15 (by decide) (fun q15 => ?_) (fun q15 => ?_)
      · have h := h.1 q15
        refine lv_aload_n hx hb dX6_cut_21 rfl (lv_at hl 0 rfl) ?_
        refine lv_iload_n hx hb dX6_cut_22 rfl (lv_at hl 1 rfl) ?_
        refine zcalli hH (va_runV (As := [.int x1]) (rest := []) hF (kX6_flowOf l G M O x1 _ h) (cwV 1 hts gX6_cut_X6_flowOf rfl rfl rfl ⟨rfl, zdX6_flowOf⟩ ⟨Nat.le_of_ble_eq_true rfl, Nat.le_of_ble_eq_true rfl⟩) (zpreV hSt hH 21 (by decide) rfl (zE_21 _ _ _) (q := (RX6, TX6, 31)) rfl [.int x1]) rfl rfl hl.1 rfl (lv_room (Nat.le_of_ble_eq_true rfl)) dX6_cut_23 ⟨Nat.zero_le _, Nat.zero_le _⟩) (fun r23 M23 H locs h hH => ?_)
        refine lv_istore_n (lv' := [(3, .int r23), (0, .ref (G.1 21)), (1, .int x1), (2, .int x2)]) hx hb dX6_cut_26 rfl hl (by decide) rfl (fun ls hl => ?_)
        refine lv_iload_n hx hb dX6_cut_27 rfl (lv_at hl 3 rfl) ?_
        refine lv_istore (lv' := [(4, .int x2), (3, .int r23), (0, .ref (G.1 21)), (1, .int x1), (2, .int x2)]) hx hb dX6_cut_28 hl (by decide) rfl (fun ls hl => ?_)
        refine lv_iconst (v := (0 : Int32)) hx hb dX6_cut_30 (by decide) ?_
        refine lv_istore (lv' := [(5, .int (0 : Int32)), (4, .int x2), (3, .int r23), (0, .ref (G.1 21)), (1, .int x1), (2, .int x2)]) hx hb dX6_cut_31 hl (by decide) rfl (fun ls hl => ?_)
        exact wX6_cut_L33 hF hSt hret x2 (0 : Int32) M23 H locs ls hH (lv_sub hl [3, 1, 0] rfl) h
      · have h := h.2 q15
        refine lv_bipush (v := (-2 : Int32)) hx hb dX6_cut_18 (by decide) ?_
        exact hret _ _ _ _ _ _ dX6_cut_20 h hH
    · have h := h.2 q9
      exact wX6_cut_b12 hF hSt hret M H locs ls hH (lv_sub hl [] rfl) h
set_option maxRecDepth 100000 in
theorem kX6_cut (l : Launch) (G : zG) (M O : zM) (x1 : Int32) (x2 : Int32) (post : Int32 → zM → Prop) (h : pX6_cut M x1 x2 post) : Met l yX6_cut wsX6_cut ({ frames := 2, cells := 0, slots := 0, locals := 48 } : Room) (zPc G false M O [.ref (G.1 21), .int x1, .int x2]) (va_Qi post (zB G false O) (zAA G)) 0 0 (zAA G) :=
  zmet_i (by decide) rfl (Nat.le_of_ble_eq_true rfl) (fun hF hSt hret H locs ls hH hl => wX6_cut hF hSt hret x1 x2 H locs ls hH hl h)
end
