theorem znX6_left_X6 : ∀ w ∈ wsX60, w ∈ wsX6_left := fun _ h => List.mem_cons_of_mem _ (List.mem_append_right _ h)
theorem zdX6_left : yX6_left.cls ≠ "java/lang/invoke/MethodHandle" ∧ yX6_left.cls ≠ "java/lang/invoke/VarHandle" ∧ (parseMethodDescriptor yX6_left.desc).map (fun d => d.parameters.length) = some 0 := by decide +kernel
-- MixingRelaysModel left()I
section
variable {p : Program} {l : Launch} {e : Env} {s : State} {m : MethodId} {args : Array Value} {below : List Frame} {meth : Method} {c : Code} {Q : State → Prop} {G : zG} {O : zM}
def pX6_left_b39 (post : Int32 → zM → Prop) (ag8 : Int32 → Int32 → zM → Prop) (x2 : Int32) (t0 : Int32) (t1 : Int32) (M : zM) : Prop :=
  ag8 (t1 + t0) (x2 + (1 : Int32)) M
set_option maxHeartbeats 4000000 in
set_option maxRecDepth 100000 in
theorem wX6_left_b39 {post : Int32 → zM → Prop} {ag8 : Int32 → Int32 → zM → Prop} (hF : CallFix p m c cX6_left 3 s args wsX6_left RX6) (hSt : zSt G s) (hret : zRi p l e ({ frames := 5, cells := 0, slots := 0, locals := 117 } : Room) s m args below meth c Q cX6_left G false O post) (hag8 : ∀ (x1 : Int32) (x2 : Int32) (M : zM) (H : Heap) (locs : List Loc) (ls : Array Slot), ag8 x1 x2 M → zH G false s H locs M O → lv_has ls 3 [(0, .ref (G.1 21)), (1, .int x1), (2, .int x2)] → W p l e ({ frames := 5, cells := 0, slots := 0, locals := 117 } : Room) s m args below meth c H locs 0 0 Q (F0 m 8 ls [])) (x2 : Int32) (t0 : Int32) (t1 : Int32) (M : zM) (H : Heap) (locs : List Loc) (ls : Array Slot) (hH : zH G false s H locs M O) (hl : lv_has ls 3 [(0, .ref (G.1 21)), (2, .int x2)]) (h : pX6_left_b39 post ag8 x2 t0 t1 M) : W p l e ({ frames := 5, cells := 0, slots := 0, locals := 117 } : Room) s m args below meth c H locs 0 0 Q (F0 m 39 ls [.int t0, .int t1]) := by
  obtain ⟨hx, hb, hml, hown, hts⟩ := id hF
  unfold pX6_left_b39 at h
  refine lv_iadd hx hb dX6_left_39 ?_
  refine lv_istore_n (lv' := [(1, .int (t1 + t0)), (0, .ref (G.1 21)), (2, .int x2)]) hx hb dX6_left_40 rfl hl (by decide) rfl (fun ls hl => ?_)
  refine lv_iinc (v := (x2 + (1 : Int32))) (lv' := [(2, .int (x2 + (1 : Int32))), (1, .int (t1 + t0)), (0, .ref (G.1 21))]) hx hb dX6_left_41 hl (k := 2) rfl rfl (by decide) rfl (fun ls hl => ?_)
  refine lv_goto (tgt := 8) hx hb dX6_left_44 (by decide) ?_
  exact hag8 (t1 + t0) (x2 + (1 : Int32)) M H locs ls h hH (lv_sub hl [2, 1, 0] rfl)
def pX6_left_b38 (post : Int32 → zM → Prop) (ag8 : Int32 → Int32 → zM → Prop) (x2 : Int32) (t0 : Int32) (M : zM) : Prop :=
  pX6_left_b39 post ag8 x2 (0 : Int32) t0 M
set_option maxHeartbeats 4000000 in
set_option maxRecDepth 100000 in
theorem wX6_left_b38 {post : Int32 → zM → Prop} {ag8 : Int32 → Int32 → zM → Prop} (hF : CallFix p m c cX6_left 3 s args wsX6_left RX6) (hSt : zSt G s) (hret : zRi p l e ({ frames := 5, cells := 0, slots := 0, locals := 117 } : Room) s m args below meth c Q cX6_left G false O post) (hag8 : ∀ (x1 : Int32) (x2 : Int32) (M : zM) (H : Heap) (locs : List Loc) (ls : Array Slot), ag8 x1 x2 M → zH G false s H locs M O → lv_has ls 3 [(0, .ref (G.1 21)), (1, .int x1), (2, .int x2)] → W p l e ({ frames := 5, cells := 0, slots := 0, locals := 117 } : Room) s m args below meth c H locs 0 0 Q (F0 m 8 ls [])) (x2 : Int32) (t0 : Int32) (M : zM) (H : Heap) (locs : List Loc) (ls : Array Slot) (hH : zH G false s H locs M O) (hl : lv_has ls 3 [(0, .ref (G.1 21)), (2, .int x2)]) (h : pX6_left_b38 post ag8 x2 t0 M) : W p l e ({ frames := 5, cells := 0, slots := 0, locals := 117 } : Room) s m args below meth c H locs 0 0 Q (F0 m 38 ls [.int t0]) := by
  obtain ⟨hx, hb, hml, hown, hts⟩ := id hF
  unfold pX6_left_b38 at h
  refine lv_iconst (v := (0 : Int32)) hx hb dX6_left_38 (by decide) ?_
  exact wX6_left_b39 hF hSt hret hag8 x2 (0 : Int32) t0 M H locs ls hH (lv_sub hl [0, 1] rfl) h
def pX6_left_b8 (post : Int32 → zM → Prop) (ag8 : Int32 → Int32 → zM → Prop) (x1 : Int32) (x2 : Int32) (M : zM) : Prop :=
  ((M.1 21 1) ≤ x2 → post x1 M) ∧ (¬ ((M.1 21 1) ≤ x2) → vp_in x2 12 ∧ ((M.1 23 x2.toNatClampNeg) = 0 → pX6_left_b38 post ag8 x2 x1 M) ∧ (¬ ((M.1 23 x2.toNatClampNeg) = 0) → pX6_hasAll M x2 (fun r28 M28 => (¬ (r28 = 0) → pX6_left_b38 post ag8 x2 x1 M28) ∧ (r28 = 0 → pX6_left_b39 post ag8 x2 (1 : Int32) x1 M28))))
set_option maxHeartbeats 4000000 in
set_option maxRecDepth 100000 in
theorem wX6_left_b8 {post : Int32 → zM → Prop} {ag8 : Int32 → Int32 → zM → Prop} (hF : CallFix p m c cX6_left 3 s args wsX6_left RX6) (hSt : zSt G s) (hret : zRi p l e ({ frames := 5, cells := 0, slots := 0, locals := 117 } : Room) s m args below meth c Q cX6_left G false O post) (hag8 : ∀ (x1 : Int32) (x2 : Int32) (M : zM) (H : Heap) (locs : List Loc) (ls : Array Slot), ag8 x1 x2 M → zH G false s H locs M O → lv_has ls 3 [(0, .ref (G.1 21)), (1, .int x1), (2, .int x2)] → W p l e ({ frames := 5, cells := 0, slots := 0, locals := 117 } : Room) s m args below meth c H locs 0 0 Q (F0 m 8 ls [])) (x1 : Int32) (x2 : Int32) (M : zM) (H : Heap) (locs : List Loc) (ls : Array Slot) (hH : zH G false s H locs M O) (hl : lv_has ls 3 [(0, .ref (G.1 21)), (1, .int x1), (2, .int x2)]) (h : pX6_left_b8 post ag8 x1 x2 M) : W p l e ({ frames := 5, cells := 0, slots := 0, locals := 117 } : Room) s m args below meth c H locs 0 0 Q (F0 m 8 ls []) := by
  obtain ⟨hx, hb, hml, hown, hts⟩ := id hF
  unfold pX6_left_b8 at h
  refine lv_iload_n hx hb dX6_left_8 rfl (lv_at hl 2 rfl) ?_
  refine lv_aload_n hx hb dX6_left_9 rfl (lv_at hl 0 rfl) ?_
  refine zget (v := .int (M.1 21 1)) hF hSt hH 21 (by decide) rfl (zE_21 _ _ _) (C := RX6) (T := TX6) (N := 31) rfl znX6_left_X6 1 (by decide) (List.mem_of_getElem? (i := 1) rfl) rfl dX6_left_10 ?_
  refine lv_icmp_ge (tgt := 47) hx hb dX6_left_13 (by decide) (fun q13 => ?_) (fun q13 => ?_)
  · have h := h.1 q13
    refine lv_iload_n hx hb dX6_left_47 rfl (lv_at hl 1 rfl) ?_
    exact hret _ _ _ _ _ _ dX6_left_48 h hH
  · have h := h.2 q13
    refine lv_iload_n hx hb dX6_left_16 rfl (lv_at hl 1 rfl) ?_
    refine lv_aload_n hx hb dX6_left_17 rfl (lv_at hl 0 rfl) ?_
    refine zget (v := .ref (G.1 23)) hF hSt hH 21 (by decide) rfl (zE_21 _ _ _) (C := RX6) (T := TX6) (N := 31) rfl znX6_left_X6 5 (by decide) (List.mem_of_getElem? (i := 2) rfl) rfl dX6_left_18 ?_
    refine lv_iload_n hx hb dX6_left_21 rfl (lv_at hl 2 rfl) ?_
    obtain ⟨q22, h⟩ := h
    refine zzald hF hSt hH 23 (by decide) rfl (zE_23 _ _ _) q22 dX6_left_22 ?_
    refine lv_if_eq (tgt := 38) hx hb dX6_left_23 (by decide) (fun q23 => ?_) (fun q23 => ?_)
    · have h := h.1 q23
      exact wX6_left_b38 hF hSt hret hag8 x2 x1 M H locs ls hH (lv_sub hl [0, 2] rfl) h
    · have h := h.2 q23
      refine lv_aload_n hx hb dX6_left_26 rfl (lv_at hl 0 rfl) ?_
      refine lv_iload_n hx hb dX6_left_27 rfl (lv_at hl 2 rfl) ?_
      refine zcalli hH (va_runV (As := [.int x2]) (rest := [.int x1]) hF (kX6_hasAll l G M O x2 _ h) (cwV 1 hts gX6_left_X6_hasAll rfl rfl rfl ⟨rfl, zdX6_hasAll⟩ ⟨Nat.le_of_ble_eq_true rfl, Nat.le_of_ble_eq_true rfl⟩) (zpreV hSt hH 21 (by decide) rfl (zE_21 _ _ _) (q := (RX6, TX6, 31)) rfl [.int x2]) rfl rfl hl.1 rfl (lv_room (Nat.le_of_ble_eq_true rfl)) dX6_left_28 ⟨Nat.zero_le _, Nat.zero_le _⟩) (fun r28 M28 H locs h hH => ?_)
      refine lv_if_ne (tgt := 38) hx hb dX6_left_31 (by decide) (fun q31 => ?_) (fun q31 => ?_)
      · have h := h.1 q31
        exact wX6_left_b38 hF hSt hret hag8 x2 x1 M28 H locs ls hH (lv_sub hl [0, 2] rfl) h
      · have h := h.2 q31
        refine lv_iconst (v := (1 : Int32)) hx hb dX6_left_34 (by decide) ?_
        refine lv_goto (tgt := 39) hx hb dX6_left_35 (by decide) ?_
        exact wX6_left_b39 hF hSt hret hag8 x2 (1 : Int32) x1 M28 H locs ls hH (lv_sub hl [0, 2] rfl) h
def pX6_left_L8 (post : Int32 → zM → Prop) (x1 : Int32) (x2 : Int32) (M : zM) : Prop :=
  ∃ I : Nat → Int32 → Int32 → zM → Prop, (∃ n, I n x1 x2 M) ∧ ∀ n x1 x2 M, I n x1 x2 M → pX6_left_b8 post (fun x1 x2 M => ∃ k, k < n ∧ I k x1 x2 M) x1 x2 M
set_option maxHeartbeats 4000000 in
theorem wX6_left_L8 {post : Int32 → zM → Prop}  (hF : CallFix p m c cX6_left 3 s args wsX6_left RX6) (hSt : zSt G s) (hret : zRi p l e ({ frames := 5, cells := 0, slots := 0, locals := 117 } : Room) s m args below meth c Q cX6_left G false O post) (x1 : Int32) (x2 : Int32) (M : zM) (H : Heap) (locs : List Loc) (ls : Array Slot) (hH : zH G false s H locs M O) (hl : lv_has ls 3 [(0, .ref (G.1 21)), (1, .int x1), (2, .int x2)]) (h : pX6_left_L8 post x1 x2 M) : W p l e ({ frames := 5, cells := 0, slots := 0, locals := 117 } : Room) s m args below meth c H locs 0 0 Q (F0 m 8 ls []) := by
  obtain ⟨I, ⟨n, hI⟩, hs⟩ := h
  have key : ∀ (n : Nat) (x1 : Int32) (x2 : Int32) (M : zM) (H : Heap) (locs : List Loc) (ls : Array Slot), I n x1 x2 M → zH G false s H locs M O → lv_has ls 3 [(0, .ref (G.1 21)), (1, .int x1), (2, .int x2)] → W p l e ({ frames := 5, cells := 0, slots := 0, locals := 117 } : Room) s m args below meth c H locs 0 0 Q (F0 m 8 ls []) := by
    intro n
    induction n using Nat.strongRecOn with
    | _ n ih =>
      intro x1 x2 M H locs ls hI hH hl
      exact wX6_left_b8 hF hSt hret (fun x1 x2 M H locs ls h hH hl => by obtain ⟨k, hk, hI⟩ := h; exact ih k hk x1 x2 M H locs ls hI hH hl) x1 x2 M H locs ls hH hl (hs n x1 x2 M hI)
  exact key n x1 x2 M H locs ls hI hH hl
def pX6_left (M : zM)  (post : Int32 → zM → Prop) : Prop :=
  pX6_work M  (fun M1 => pX6_left_L8 post (0 : Int32) (1 : Int32) M1)
set_option maxHeartbeats 4000000 in
set_option maxRecDepth 100000 in
theorem wX6_left {M : zM} {post : Int32 → zM → Prop} (hF : CallFix p m c cX6_left 3 s args wsX6_left RX6) (hSt : zSt G s) (hret : zRi p l e ({ frames := 5, cells := 0, slots := 0, locals := 117 } : Room) s m args below meth c Q cX6_left G false O post)  (H : Heap) (locs : List Loc) (ls : Array Slot) (hH : zH G false s H locs M O) (hl : lv_has ls 3 [(0, .ref (G.1 21))]) (h : pX6_left M  post) : W p l e ({ frames := 5, cells := 0, slots := 0, locals := 117 } : Room) s m args below meth c H locs 0 0 Q (F0 m 0 ls []) := by
  obtain ⟨hx, hb, hml, hown, hts⟩ := id hF
  unfold pX6_left at h
  refine lv_aload_n hx hb dX6_left_0 rfl (lv_at hl 0 rfl) ?_
  refine zcallv hH (va_runV (As := []) (rest := []) hF (kX6_work l G M O _ h) (cwV 0 hts gX6_left_X6_work rfl rfl rfl ⟨rfl, zdX6_work⟩ ⟨Nat.le_of_ble_eq_true rfl, Nat.le_of_ble_eq_true rfl⟩) (zpreV hSt hH 21 (by decide) rfl (zE_21 _ _ _) (q := (RX6, TX6, 31)) rfl []) rfl rfl hl.1 rfl (lv_room (Nat.le_of_ble_eq_true rfl)) dX6_left_1 ⟨Nat.zero_le _, Nat.zero_le _⟩) (fun M1 H locs h hH => ?_)
  refine lv_iconst (v := (0 : Int32)) hx hb dX6_left_4 (by decide) ?_
  refine lv_istore_n (lv' := [(1, .int (0 : Int32)), (0, .ref (G.1 21))]) hx hb dX6_left_5 rfl hl (by decide) rfl (fun ls hl => ?_)
  refine lv_iconst (v := (1 : Int32)) hx hb dX6_left_6 (by decide) ?_
  refine lv_istore_n (lv' := [(2, .int (1 : Int32)), (1, .int (0 : Int32)), (0, .ref (G.1 21))]) hx hb dX6_left_7 rfl hl (by decide) rfl (fun ls hl => ?_)
  exact wX6_left_L8 hF hSt hret (0 : Int32) (1 : Int32) M1 H locs ls hH (lv_sub hl [2, 1, 0] rfl) h
set_option maxRecDepth 100000 in
theorem kX6_left (l : Launch) (G : zG) (M O : zM)  (post : Int32 → zM → Prop) (h : pX6_left M  post) : Met l yX6_left wsX6_left ({ frames := 5, cells := 0, slots := 0, locals := 117 } : Room) (zPc G false M O [.ref (G.1 21)]) (va_Qi post (zB G false O) (zAA G)) 0 0 (zAA G) :=
  zmet_i (by decide) rfl (Nat.le_of_ble_eq_true rfl) (fun hF hSt hret H locs ls hH hl => wX6_left hF hSt hret  H locs ls hH hl h)
end
theorem znX6_draw_X6 : ∀ w ∈ wsX60, w ∈ wsX6_draw := fun _ h => List.mem_cons_of_mem _ (List.mem_append_right _ h)
theorem zdX6_draw : yX6_draw.cls ≠ "java/lang/invoke/MethodHandle" ∧ yX6_draw.cls ≠ "java/lang/invoke/VarHandle" ∧ (parseMethodDescriptor yX6_draw.desc).map (fun d => d.parameters.length) = some 1 := by decide +kernel
-- MixingRelaysModel draw(I)I
section
variable {p : Program} {l : Launch} {e : Env} {s : State} {m : MethodId} {args : Array Value} {below : List Frame} {meth : Method} {c : Code} {Q : State → Prop} {G : zG} {O : zM}
def pX6_draw_b79 (post : Int32 → zM → Prop) (ag7 : Int32 → Int32 → Int32 → zM → Prop) (x2 : Int32) (x3 : Int32) (x4 : Int32) (M : zM) : Prop :=
  ag7 x2 x3 (x4 + (1 : Int32)) M
set_option maxHeartbeats 4000000 in
set_option maxRecDepth 100000 in
theorem wX6_draw_b79 {post : Int32 → zM → Prop} {ag7 : Int32 → Int32 → Int32 → zM → Prop} (hF : CallFix p m c cX6_draw 6 s args wsX6_draw RX6) (hSt : zSt G s) (hret : zRi p l e ({ frames := 2, cells := 0, slots := 0, locals := 44 } : Room) s m args below meth c Q cX6_draw G false O post) (hag7 : ∀ (x2 : Int32) (x3 : Int32) (x4 : Int32) (M : zM) (H : Heap) (locs : List Loc) (ls : Array Slot), ag7 x2 x3 x4 M → zH G false s H locs M O → lv_has ls 6 [(0, .ref (G.1 21)), (2, .int x2), (3, .int x3), (4, .int x4)] → W p l e ({ frames := 2, cells := 0, slots := 0, locals := 44 } : Room) s m args below meth c H locs 0 0 Q (F0 m 7 ls [])) (x2 : Int32) (x3 : Int32) (x4 : Int32) (M : zM) (H : Heap) (locs : List Loc) (ls : Array Slot) (hH : zH G false s H locs M O) (hl : lv_has ls 6 [(0, .ref (G.1 21)), (2, .int x2), (3, .int x3), (4, .int x4)]) (h : pX6_draw_b79 post ag7 x2 x3 x4 M) : W p l e ({ frames := 2, cells := 0, slots := 0, locals := 44 } : Room) s m args below meth c H locs 0 0 Q (F0 m 79 ls []) := by
  obtain ⟨hx, hb, hml, hown, hts⟩ := id hF
  unfold pX6_draw_b79 at h
  refine lv_iinc (v := (x4 + (1 : Int32))) (lv' := [(4, .int (x4 + (1 : Int32))), (0, .ref (G.1 21)), (2, .int x2), (3, .int x3)]) hx hb dX6_draw_79 hl (k := 3) rfl rfl (by decide) rfl (fun ls hl => ?_)
  refine lv_goto (tgt := 7) hx hb dX6_draw_82 (by decide) ?_
  exact hag7 x2 x3 (x4 + (1 : Int32)) M H locs ls h hH (lv_sub hl [1, 2, 3, 0] rfl)
def pX6_draw_b19 (post : Int32 → zM → Prop) (ag7 : Int32 → Int32 → Int32 → zM → Prop) (ag19 : Int32 → Int32 → Int32 → Int32 → zM → Prop) (x2 : Int32) (x3 : Int32) (x4 : Int32) (x5 : Int32) (M : zM) : Prop :=
  pX6_ins M x4 (fun r24 => (r24 ≤ x5 → pX6_draw_b79 post ag7 x2 x3 x4 M) ∧ (¬ (r24 ≤ x5) → vp_in x4 30 ∧ (¬ ((M.1 26 x4.toNatClampNeg) = 0) → pX6_draw_b79 post ag7 x2 x3 x4 M) ∧ ((M.1 26 x4.toNatClampNeg) = 0 → vp_in (((30 : Int32) * x4) + x5) 900 ∧ ag19 (((1103515245 : Int32) * x2) + (12345 : Int32)) (x3 + (1 : Int32)) x4 (x5 + (1 : Int32)) (zsi M 29 ((((30 : Int32) * x4) + x5)).toNatClampNeg ((((((1103515245 : Int32) * x2) + (12345 : Int32))).toUInt32 >>> (((16 : Int32)).toUInt32 &&& Int32.toUInt32 31)).toInt32 &&& (255 : Int32))))))
set_option maxHeartbeats 4000000 in
set_option maxRecDepth 100000 in
theorem wX6_draw_b19 {post : Int32 → zM → Prop} {ag7 : Int32 → Int32 → Int32 → zM → Prop} {ag19 : Int32 → Int32 → Int32 → Int32 → zM → Prop} (hF : CallFix p m c cX6_draw 6 s args wsX6_draw RX6) (hSt : zSt G s) (hret : zRi p l e ({ frames := 2, cells := 0, slots := 0, locals := 44 } : Room) s m args below meth c Q cX6_draw G false O post) (hag7 : ∀ (x2 : Int32) (x3 : Int32) (x4 : Int32) (M : zM) (H : Heap) (locs : List Loc) (ls : Array Slot), ag7 x2 x3 x4 M → zH G false s H locs M O → lv_has ls 6 [(0, .ref (G.1 21)), (2, .int x2), (3, .int x3), (4, .int x4)] → W p l e ({ frames := 2, cells := 0, slots := 0, locals := 44 } : Room) s m args below meth c H locs 0 0 Q (F0 m 7 ls [])) (hag19 : ∀ (x2 : Int32) (x3 : Int32) (x4 : Int32) (x5 : Int32) (M : zM) (H : Heap) (locs : List Loc) (ls : Array Slot), ag19 x2 x3 x4 x5 M → zH G false s H locs M O → lv_has ls 6 [(0, .ref (G.1 21)), (2, .int x2), (3, .int x3), (4, .int x4), (5, .int x5)] → W p l e ({ frames := 2, cells := 0, slots := 0, locals := 44 } : Room) s m args below meth c H locs 0 0 Q (F0 m 19 ls [])) (x2 : Int32) (x3 : Int32) (x4 : Int32) (x5 : Int32) (M : zM) (H : Heap) (locs : List Loc) (ls : Array Slot) (hH : zH G false s H locs M O) (hl : lv_has ls 6 [(0, .ref (G.1 21)), (2, .int x2), (3, .int x3), (4, .int x4), (5, .int x5)]) (h : pX6_draw_b19 post ag7 ag19 x2 x3 x4 x5 M) : W p l e ({ frames := 2, cells := 0, slots := 0, locals := 44 } : Room) s m args below meth c H locs 0 0 Q (F0 m 19 ls []) := by
  obtain ⟨hx, hb, hml, hown, hts⟩ := id hF
  unfold pX6_draw_b19 at h
  refine lv_iload hx hb dX6_draw_19 (lv_at hl 4 rfl) ?_
  refine lv_aload_n hx hb dX6_draw_21 rfl (lv_at hl 0 rfl) ?_
  refine lv_iload hx hb dX6_draw_22 (lv_at hl 3 rfl) ?_
  refine zcalliP hH (va_runV (As := [.int x4]) (rest := [.int x5]) hF (kX6_ins l G M O x4 _ h) (cwV 1 hts gX6_draw_X6_ins rfl rfl rfl ⟨rfl, zdX6_ins⟩ ⟨Nat.le_of_ble_eq_true rfl, Nat.le_of_ble_eq_true rfl⟩) (zpreV hSt hH 21 (by decide) rfl (zE_21 _ _ _) (q := (RX6, TX6, 31)) rfl [.int x4]) rfl rfl hl.1 rfl (lv_room (Nat.le_of_ble_eq_true rfl)) dX6_draw_24 ⟨Nat.zero_le _, Nat.zero_le _⟩) (fun r24 H locs h hH => ?_)
  refine lv_icmp_ge (tgt := 79) hx hb dX6_draw_27 (by decide) (fun q27 => ?_) (fun q27 => ?_)
  · have h := h.1 q27
    exact wX6_draw_b79 hF hSt hret hag7 x2 x3 x4 M H locs ls hH (lv_sub hl [0, 1, 2, 3] rfl) h
  · have h := h.2 q27
    refine lv_aload_n hx hb dX6_draw_30 rfl (lv_at hl 0 rfl) ?_
    refine zget (v := .ref (G.1 26)) hF hSt hH 21 (by decide) rfl (zE_21 _ _ _) (C := RX6) (T := TX6) (N := 31) rfl znX6_draw_X6 8 (by decide) (List.mem_of_getElem? (i := 2) rfl) rfl dX6_draw_31 ?_
    refine lv_iload hx hb dX6_draw_34 (lv_at hl 3 rfl) ?_
    obtain ⟨q36, h⟩ := h
    refine zzald hF hSt hH 26 (by decide) rfl (zE_26 _ _ _) q36 dX6_draw_36 ?_
    refine lv_if_ne (tgt := 79) hx hb dX6_draw_37 (by decide) (fun q37 => ?_) (fun q37 => ?_)
    · have h := h.1 q37
      exact wX6_draw_b79 hF hSt hret hag7 x2 x3 x4 M H locs ls hH (lv_sub hl [0, 1, 2, 3] rfl) h
    · have h := h.2 q37
      refine lv_ldc (v := (1103515245 : Int32)) hx hb hown (hts _ (List.mem_of_getElem? (i := 3) rfl)) dX6_draw_40 ?_
      refine lv_iload_n hx hb dX6_draw_42 rfl (lv_at hl 1 rfl) ?_
      refine lv_imul hx hb dX6_draw_43 ?_
      refine lv_sipush (v := (12345 : Int32)) hx hb dX6_draw_44 (by decide) ?_
      refine lv_iadd hx hb dX6_draw_47 ?_
      refine lv_istore_n (lv' := [(2, .int (((1103515245 : Int32) * x2) + (12345 : Int32))), (0, .ref (G.1 21)), (3, .int x3), (4, .int x4), (5, .int x5)]) hx hb dX6_draw_48 rfl hl (by decide) rfl (fun ls hl => ?_)
      refine lv_aload_n hx hb dX6_draw_49 rfl (lv_at hl 1 rfl) ?_
      refine zget (v := .ref (G.1 29)) hF hSt hH 21 (by decide) rfl (zE_21 _ _ _) (C := RX6) (T := TX6) (N := 31) rfl znX6_draw_X6 11 (by decide) (List.mem_of_getElem? (i := 4) rfl) rfl dX6_draw_50 ?_
      refine lv_bipush (v := (30 : Int32)) hx hb dX6_draw_53 (by decide) ?_
      refine lv_iload hx hb dX6_draw_55 (lv_at hl 3 rfl) ?_
      refine lv_imul hx hb dX6_draw_57 ?_
      refine lv_iload hx hb dX6_draw_58 (lv_at hl 4 rfl) ?_
      refine lv_iadd hx hb dX6_draw_60 ?_
      refine lv_iload_n hx hb dX6_draw_61 rfl (lv_at hl 0 rfl) ?_
      refine lv_bipush (v := (16 : Int32)) hx hb dX6_draw_62 (by decide) ?_
      refine lv_iushr hx hb dX6_draw_64 rfl ?_
      refine lv_sipush (v := (255 : Int32)) hx hb dX6_draw_65 (by decide) ?_
      refine lv_iand hx hb dX6_draw_68 ?_
      obtain ⟨q69, h⟩ := h
      refine zast hF hSt hH 29 (by decide) rfl (zE_29 _) (x := ((((((1103515245 : Int32) * x2) + (12345 : Int32))).toUInt32 >>> (((16 : Int32)).toUInt32 &&& Int32.toUInt32 31)).toInt32 &&& (255 : Int32))) q69 dX6_draw_69 (fun H locs hH => ?_)
      refine lv_iinc (v := (x3 + (1 : Int32))) (lv' := [(3, .int (x3 + (1 : Int32))), (2, .int (((1103515245 : Int32) * x2) + (12345 : Int32))), (0, .ref (G.1 21)), (4, .int x4), (5, .int x5)]) hx hb dX6_draw_70 hl (k := 2) rfl rfl (by decide) rfl (fun ls hl => ?_)
      refine lv_iinc (v := (x5 + (1 : Int32))) (lv' := [(5, .int (x5 + (1 : Int32))), (3, .int (x3 + (1 : Int32))), (2, .int (((1103515245 : Int32) * x2) + (12345 : Int32))), (0, .ref (G.1 21)), (4, .int x4)]) hx hb dX6_draw_73 hl (k := 4) rfl rfl (by decide) rfl (fun ls hl => ?_)
      refine lv_goto (tgt := 19) hx hb dX6_draw_76 (by decide) ?_
      exact hag19 (((1103515245 : Int32) * x2) + (12345 : Int32)) (x3 + (1 : Int32)) x4 (x5 + (1 : Int32)) (zsi M 29 ((((30 : Int32) * x4) + x5)).toNatClampNeg ((((((1103515245 : Int32) * x2) + (12345 : Int32))).toUInt32 >>> (((16 : Int32)).toUInt32 &&& Int32.toUInt32 31)).toInt32 &&& (255 : Int32))) H locs ls h hH (lv_sub hl [3, 2, 1, 4, 0] rfl)
def pX6_draw_L19 (post : Int32 → zM → Prop) (ag7 : Int32 → Int32 → Int32 → zM → Prop) (x2 : Int32) (x3 : Int32) (x4 : Int32) (x5 : Int32) (M : zM) : Prop :=
  ∃ I : Nat → Int32 → Int32 → Int32 → Int32 → zM → Prop, (∃ n, I n x2 x3 x4 x5 M) ∧ ∀ n x2 x3 x4 x5 M, I n x2 x3 x4 x5 M → pX6_draw_b19 post ag7 (fun x2 x3 x4 x5 M => ∃ k, k < n ∧ I k x2 x3 x4 x5 M) x2 x3 x4 x5 M
set_option maxHeartbeats 4000000 in
theorem wX6_draw_L19 {post : Int32 → zM → Prop} {ag7 : Int32 → Int32 → Int32 → zM → Prop} (hF : CallFix p m c cX6_draw 6 s args wsX6_draw RX6) (hSt : zSt G s) (hret : zRi p l e ({ frames := 2, cells := 0, slots := 0, locals := 44 } : Room) s m args below meth c Q cX6_draw G false O post) (hag7 : ∀ (x2 : Int32) (x3 : Int32) (x4 : Int32) (M : zM) (H : Heap) (locs : List Loc) (ls : Array Slot), ag7 x2 x3 x4 M → zH G false s H locs M O → lv_has ls 6 [(0, .ref (G.1 21)), (2, .int x2), (3, .int x3), (4, .int x4)] → W p l e ({ frames := 2, cells := 0, slots := 0, locals := 44 } : Room) s m args below meth c H locs 0 0 Q (F0 m 7 ls [])) (x2 : Int32) (x3 : Int32) (x4 : Int32) (x5 : Int32) (M : zM) (H : Heap) (locs : List Loc) (ls : Array Slot) (hH : zH G false s H locs M O) (hl : lv_has ls 6 [(0, .ref (G.1 21)), (2, .int x2), (3, .int x3), (4, .int x4), (5, .int x5)]) (h : pX6_draw_L19 post ag7 x2 x3 x4 x5 M) : W p l e ({ frames := 2, cells := 0, slots := 0, locals := 44 } : Room) s m args below meth c H locs 0 0 Q (F0 m 19 ls []) := by
  obtain ⟨I, ⟨n, hI⟩, hs⟩ := h
  have key : ∀ (n : Nat) (x2 : Int32) (x3 : Int32) (x4 : Int32) (x5 : Int32) (M : zM) (H : Heap) (locs : List Loc) (ls : Array Slot), I n x2 x3 x4 x5 M → zH G false s H locs M O → lv_has ls 6 [(0, .ref (G.1 21)), (2, .int x2), (3, .int x3), (4, .int x4), (5, .int x5)] → W p l e ({ frames := 2, cells := 0, slots := 0, locals := 44 } : Room) s m args below meth c H locs 0 0 Q (F0 m 19 ls []) := by
    intro n
    induction n using Nat.strongRecOn with
    | _ n ih =>
      intro x2 x3 x4 x5 M H locs ls hI hH hl
      exact wX6_draw_b19 hF hSt hret hag7 (fun x2 x3 x4 x5 M H locs ls h hH hl => by obtain ⟨k, hk, hI⟩ := h; exact ih k hk x2 x3 x4 x5 M H locs ls hI hH hl) x2 x3 x4 x5 M H locs ls hH hl (hs n x2 x3 x4 x5 M hI)
  exact key n x2 x3 x4 x5 M H locs ls hI hH hl
def pX6_draw_b7 (post : Int32 → zM → Prop) (ag7 : Int32 → Int32 → Int32 → zM → Prop) (x2 : Int32) (x3 : Int32) (x4 : Int32) (M : zM) : Prop :=
  ((M.1 21 2) ≤ x4 → post x3 M) ∧ (¬ ((M.1 21 2) ≤ x4) → pX6_draw_L19 post ag7 x2 x3 x4 (0 : Int32) M)
set_option maxHeartbeats 4000000 in
set_option maxRecDepth 100000 in
theorem wX6_draw_b7 {post : Int32 → zM → Prop} {ag7 : Int32 → Int32 → Int32 → zM → Prop} (hF : CallFix p m c cX6_draw 6 s args wsX6_draw RX6) (hSt : zSt G s) (hret : zRi p l e ({ frames := 2, cells := 0, slots := 0, locals := 44 } : Room) s m args below meth c Q cX6_draw G false O post) (hag7 : ∀ (x2 : Int32) (x3 : Int32) (x4 : Int32) (M : zM) (H : Heap) (locs : List Loc) (ls : Array Slot), ag7 x2 x3 x4 M → zH G false s H locs M O → lv_has ls 6 [(0, .ref (G.1 21)), (2, .int x2), (3, .int x3), (4, .int x4)] → W p l e ({ frames := 2, cells := 0, slots := 0, locals := 44 } : Room) s m args below meth c H locs 0 0 Q (F0 m 7 ls [])) (x2 : Int32) (x3 : Int32) (x4 : Int32) (M : zM) (H : Heap) (locs : List Loc) (ls : Array Slot) (hH : zH G false s H locs M O) (hl : lv_has ls 6 [(0, .ref (G.1 21)), (2, .int x2), (3, .int x3), (4, .int x4)]) (h : pX6_draw_b7 post ag7 x2 x3 x4 M) : W p l e ({ frames := 2, cells := 0, slots := 0, locals := 44 } : Room) s m args below meth c H locs 0 0 Q (F0 m 7 ls []) := by
  obtain ⟨hx, hb, hml, hown, hts⟩ := id hF
  unfold pX6_draw_b7 at h
  refine lv_iload hx hb dX6_draw_7 (lv_at hl 3 rfl) ?_
  refine lv_aload_n hx hb dX6_draw_9 rfl (lv_at hl 0 rfl) ?_
  refine zget (v := .int (M.1 21 2)) hF hSt hH 21 (by decide) rfl (zE_21 _ _ _) (C := RX6) (T := TX6) (N := 31) rfl znX6_draw_X6 2 (by decide) (List.mem_of_getElem? (i := 1) rfl) rfl dX6_draw_10 ?_
  refine lv_icmp_ge (tgt := 85) hx hb dX6_draw_13 (by decide) (fun q13 => ?_) (fun q13 => ?_)
  · have h := h.1 q13
    refine lv_iload_n hx hb dX6_draw_85 rfl (lv_at hl 2 rfl) ?_
    exact hret _ _ _ _ _ _ dX6_draw_86 h hH
  · have h := h.2 q13
    refine lv_iconst (v := (0 : Int32)) hx hb dX6_draw_16 (by decide) ?_
    refine lv_istore (lv' := [(5, .int (0 : Int32)), (0, .ref (G.1 21)), (2, .int x2), (3, .int x3), (4, .int x4)]) hx hb dX6_draw_17 hl (by decide) rfl (fun ls hl => ?_)
    exact wX6_draw_L19 hF hSt hret hag7 x2 x3 x4 (0 : Int32) M H locs ls hH (lv_sub hl [1, 2, 3, 4, 0] rfl) h
def pX6_draw_L7 (post : Int32 → zM → Prop) (x2 : Int32) (x3 : Int32) (x4 : Int32) (M : zM) : Prop :=
  ∃ I : Nat → Int32 → Int32 → Int32 → zM → Prop, (∃ n, I n x2 x3 x4 M) ∧ ∀ n x2 x3 x4 M, I n x2 x3 x4 M → pX6_draw_b7 post (fun x2 x3 x4 M => ∃ k, k < n ∧ I k x2 x3 x4 M) x2 x3 x4 M
set_option maxHeartbeats 4000000 in
theorem wX6_draw_L7 {post : Int32 → zM → Prop}  (hF : CallFix p m c cX6_draw 6 s args wsX6_draw RX6) (hSt : zSt G s) (hret : zRi p l e ({ frames := 2, cells := 0, slots := 0, locals := 44 } : Room) s m args below meth c Q cX6_draw G false O post) (x2 : Int32) (x3 : Int32) (x4 : Int32) (M : zM) (H : Heap) (locs : List Loc) (ls : Array Slot) (hH : zH G false s H locs M O) (hl : lv_has ls 6 [(0, .ref (G.1 21)), (2, .int x2), (3, .int x3), (4, .int x4)]) (h : pX6_draw_L7 post x2 x3 x4 M) : W p l e ({ frames := 2, cells := 0, slots := 0, locals := 44 } : Room) s m args below meth c H locs 0 0 Q (F0 m 7 ls []) := by
  obtain ⟨I, ⟨n, hI⟩, hs⟩ := h
  have key : ∀ (n : Nat) (x2 : Int32) (x3 : Int32) (x4 : Int32) (M : zM) (H : Heap) (locs : List Loc) (ls : Array Slot), I n x2 x3 x4 M → zH G false s H locs M O → lv_has ls 6 [(0, .ref (G.1 21)), (2, .int x2), (3, .int x3), (4, .int x4)] → W p l e ({ frames := 2, cells := 0, slots := 0, locals := 44 } : Room) s m args below meth c H locs 0 0 Q (F0 m 7 ls []) := by
    intro n
    induction n using Nat.strongRecOn with
    | _ n ih =>
      intro x2 x3 x4 M H locs ls hI hH hl
      exact wX6_draw_b7 hF hSt hret (fun x2 x3 x4 M H locs ls h hH hl => by obtain ⟨k, hk, hI⟩ := h; exact ih k hk x2 x3 x4 M H locs ls hI hH hl) x2 x3 x4 M H locs ls hH hl (hs n x2 x3 x4 M hI)
  exact key n x2 x3 x4 M H locs ls hI hH hl
def pX6_draw (M : zM) (x1 : Int32) (post : Int32 → zM → Prop) : Prop :=
  pX6_draw_L7 post x1 (0 : Int32) (0 : Int32) M
set_option maxHeartbeats 4000000 in
set_option maxRecDepth 100000 in
theorem wX6_draw {M : zM} {post : Int32 → zM → Prop} (hF : CallFix p m c cX6_draw 6 s args wsX6_draw RX6) (hSt : zSt G s) (hret : zRi p l e ({ frames := 2, cells := 0, slots := 0, locals := 44 } : Room) s m args below meth c Q cX6_draw G false O post) (x1 : Int32) (H : Heap) (locs : List Loc) (ls : Array Slot) (hH : zH G false s H locs M O) (hl : lv_has ls 6 [(0, .ref (G.1 21)), (1, .int x1)]) (h : pX6_draw M x1 post) : W p l e ({ frames := 2, cells := 0, slots := 0, locals := 44 } : Room) s m args below meth c H locs 0 0 Q (F0 m 0 ls []) := by
  obtain ⟨hx, hb, hml, hown, hts⟩ := id hF
  unfold pX6_draw at h
  refine lv_iload_n hx hb dX6_draw_0 rfl (lv_at hl 1 rfl) ?_
  refine lv_istore_n (lv' := [(2, .int x1), (0, .ref (G.1 21)), (1, .int x1)]) hx hb dX6_draw_1 rfl hl (by decide) rfl (fun ls hl => ?_)
  refine lv_iconst (v := (0 : Int32)) hx hb dX6_draw_2 (by decide) ?_
  refine lv_istore_n (lv' := [(3, .int (0 : Int32)), (2, .int x1), (0, .ref (G.1 21)), (1, .int x1)]) hx hb dX6_draw_3 rfl hl (by decide) rfl (fun ls hl => ?_)
  refine lv_iconst (v := (0 : Int32)) hx hb dX6_draw_4 (by decide) ?_
  refine lv_istore (lv' := [(4, .int (0 : Int32)), (3, .int (0 : Int32)), (2, .int x1), (0, .ref (G.1 21)), (1, .int x1)]) hx hb dX6_draw_5 hl (by decide) rfl (fun ls hl => ?_)
  exact wX6_draw_L7 hF hSt hret x1 (0 : Int32) (0 : Int32) M H locs ls hH (lv_sub hl [3, 2, 1, 0] rfl) h
set_option maxRecDepth 100000 in
theorem kX6_draw (l : Launch) (G : zG) (M O : zM) (x1 : Int32) (post : Int32 → zM → Prop) (h : pX6_draw M x1 post) : Met l yX6_draw wsX6_draw ({ frames := 2, cells := 0, slots := 0, locals := 44 } : Room) (zPc G false M O [.ref (G.1 21), .int x1]) (va_Qi post (zB G false O) (zAA G)) 0 0 (zAA G) :=
  zmet_i (by decide) rfl (Nat.le_of_ble_eq_true rfl) (fun hF hSt hret H locs ls hH hl => wX6_draw hF hSt hret x1 H locs ls hH hl h)
end
theorem znX6_ends_X6 : ∀ w ∈ wsX60, w ∈ wsX6_ends := fun _ h => List.mem_cons_of_mem _ (List.mem_append_right _ h)
theorem zdX6_ends : yX6_ends.cls ≠ "java/lang/invoke/MethodHandle" ∧ yX6_ends.cls ≠ "java/lang/invoke/VarHandle" ∧ (parseMethodDescriptor yX6_ends.desc).map (fun d => d.parameters.length) = some 0 := by decide +kernel
-- MixingRelaysModel ends()I
section
variable {p : Program} {l : Launch} {e : Env} {s : State} {m : MethodId} {args : Array Value} {below : List Frame} {meth : Method} {c : Code} {Q : State → Prop} {G : zG} {O : zM}
def pX6_ends_b27 (M : zM) (post : Int32 → Prop) (ag4 : Int32 → Int32 → Prop) (x2 : Int32) (t0 : Int32) (t1 : Int32) : Prop :=
  ag4 (t1 + t0) (x2 + (1 : Int32))
set_option maxHeartbeats 4000000 in
set_option maxRecDepth 100000 in
theorem wX6_ends_b27 {M : zM} {post : Int32 → Prop} {ag4 : Int32 → Int32 → Prop} (hF : CallFix p m c cX6_ends 3 s args wsX6_ends RX6) (hSt : zSt G s) (hret : zRi p l e ({ frames := 0, cells := 0, slots := 0, locals := 0 } : Room) s m args below meth c Q cX6_ends G false O (fun r M1 => M1 = M ∧ post r)) (hag4 : ∀ (x1 : Int32) (x2 : Int32) (H : Heap) (locs : List Loc) (ls : Array Slot), ag4 x1 x2 → zH G false s H locs M O → lv_has ls 3 [(0, .ref (G.1 21)), (1, .int x1), (2, .int x2)] → W p l e ({ frames := 0, cells := 0, slots := 0, locals := 0 } : Room) s m args below meth c H locs 0 0 Q (F0 m 4 ls [])) (x2 : Int32) (t0 : Int32) (t1 : Int32) (H : Heap) (locs : List Loc) (ls : Array Slot) (hH : zH G false s H locs M O) (hl : lv_has ls 3 [(0, .ref (G.1 21)), (2, .int x2)]) (h : pX6_ends_b27 M post ag4 x2 t0 t1) : W p l e ({ frames := 0, cells := 0, slots := 0, locals := 0 } : Room) s m args below meth c H locs 0 0 Q (F0 m 27 ls [.int t0, .int t1]) := by
  obtain ⟨hx, hb, hml, hown, hts⟩ := id hF
  unfold pX6_ends_b27 at h
  refine lv_iadd hx hb dX6_ends_27 ?_
  refine lv_istore_n (lv' := [(1, .int (t1 + t0)), (0, .ref (G.1 21)), (2, .int x2)]) hx hb dX6_ends_28 rfl hl (by decide) rfl (fun ls hl => ?_)
  refine lv_iinc (v := (x2 + (1 : Int32))) (lv' := [(2, .int (x2 + (1 : Int32))), (1, .int (t1 + t0)), (0, .ref (G.1 21))]) hx hb dX6_ends_29 hl (k := 2) rfl rfl (by decide) rfl (fun ls hl => ?_)
  refine lv_goto (tgt := 4) hx hb dX6_ends_32 (by decide) ?_
  exact hag4 (t1 + t0) (x2 + (1 : Int32)) H locs ls h hH (lv_sub hl [2, 1, 0] rfl)
def pX6_ends_b4 (M : zM) (post : Int32 → Prop) (ag4 : Int32 → Int32 → Prop) (x1 : Int32) (x2 : Int32) : Prop :=
  ((M.1 21 1) ≤ x2 → post x1) ∧ (¬ ((M.1 21 1) ≤ x2) → vp_in x2 12 ∧ ((M.1 23 x2.toNatClampNeg) = 0 → pX6_ends_b27 M post ag4 x2 (0 : Int32) x1) ∧ (¬ ((M.1 23 x2.toNatClampNeg) = 0) → pX6_ends_b27 M post ag4 x2 (1 : Int32) x1))
set_option maxHeartbeats 4000000 in
set_option maxRecDepth 100000 in
theorem wX6_ends_b4 {M : zM} {post : Int32 → Prop} {ag4 : Int32 → Int32 → Prop} (hF : CallFix p m c cX6_ends 3 s args wsX6_ends RX6) (hSt : zSt G s) (hret : zRi p l e ({ frames := 0, cells := 0, slots := 0, locals := 0 } : Room) s m args below meth c Q cX6_ends G false O (fun r M1 => M1 = M ∧ post r)) (hag4 : ∀ (x1 : Int32) (x2 : Int32) (H : Heap) (locs : List Loc) (ls : Array Slot), ag4 x1 x2 → zH G false s H locs M O → lv_has ls 3 [(0, .ref (G.1 21)), (1, .int x1), (2, .int x2)] → W p l e ({ frames := 0, cells := 0, slots := 0, locals := 0 } : Room) s m args below meth c H locs 0 0 Q (F0 m 4 ls [])) (x1 : Int32) (x2 : Int32) (H : Heap) (locs : List Loc) (ls : Array Slot) (hH : zH G false s H locs M O) (hl : lv_has ls 3 [(0, .ref (G.1 21)), (1, .int x1), (2, .int x2)]) (h : pX6_ends_b4 M post ag4 x1 x2) : W p l e ({ frames := 0, cells := 0, slots := 0, locals := 0 } : Room) s m args below meth c H locs 0 0 Q (F0 m 4 ls []) := by
  obtain ⟨hx, hb, hml, hown, hts⟩ := id hF
  unfold pX6_ends_b4 at h
  refine lv_iload_n hx hb dX6_ends_4 rfl (lv_at hl 2 rfl) ?_
  refine lv_aload_n hx hb dX6_ends_5 rfl (lv_at hl 0 rfl) ?_
  refine zget (v := .int (M.1 21 1)) hF hSt hH 21 (by decide) rfl (zE_21 _ _ _) (C := RX6) (T := TX6) (N := 31) rfl znX6_ends_X6 1 (by decide) (List.mem_of_getElem? (i := 1) rfl) rfl dX6_ends_6 ?_
  refine lv_icmp_ge (tgt := 35) hx hb dX6_ends_9 (by decide) (fun q9 => ?_) (fun q9 => ?_)
  · have h := h.1 q9
    refine lv_iload_n hx hb dX6_ends_35 rfl (lv_at hl 1 rfl) ?_
    exact hret _ _ _ _ _ _ dX6_ends_36 ⟨rfl, h⟩ hH
  · have h := h.2 q9
    refine lv_iload_n hx hb dX6_ends_12 rfl (lv_at hl 1 rfl) ?_
    refine lv_aload_n hx hb dX6_ends_13 rfl (lv_at hl 0 rfl) ?_
    refine zget (v := .ref (G.1 23)) hF hSt hH 21 (by decide) rfl (zE_21 _ _ _) (C := RX6) (T := TX6) (N := 31) rfl znX6_ends_X6 5 (by decide) (List.mem_of_getElem? (i := 2) rfl) rfl dX6_ends_14 ?_
    refine lv_iload_n hx hb dX6_ends_17 rfl (lv_at hl 2 rfl) ?_
    obtain ⟨q18, h⟩ := h
    refine zzald hF hSt hH 23 (by decide) rfl (zE_23 _ _ _) q18 dX6_ends_18 ?_
    refine lv_if_eq (tgt := 26) hx hb dX6_ends_19 (by decide) (fun q19 => ?_) (fun q19 => ?_)
    · have h := h.1 q19
      refine lv_iconst (v := (0 : Int32)) hx hb dX6_ends_26 (by decide) ?_
      exact wX6_ends_b27 hF hSt hret hag4 x2 (0 : Int32) x1 H locs ls hH (lv_sub hl [0, 2] rfl) h
    · have h := h.2 q19
      refine lv_iconst (v := (1 : Int32)) hx hb dX6_ends_22 (by decide) ?_
      refine lv_goto (tgt := 27) hx hb dX6_ends_23 (by decide) ?_
      exact wX6_ends_b27 hF hSt hret hag4 x2 (1 : Int32) x1 H locs ls hH (lv_sub hl [0, 2] rfl) h
def pX6_ends_L4 (M : zM) (post : Int32 → Prop) (x1 : Int32) (x2 : Int32) : Prop :=
  ∃ I : Nat → Int32 → Int32 → Prop, (∃ n, I n x1 x2) ∧ ∀ n x1 x2, I n x1 x2 → pX6_ends_b4 M post (fun x1 x2 => ∃ k, k < n ∧ I k x1 x2) x1 x2
set_option maxHeartbeats 4000000 in
theorem wX6_ends_L4 {M : zM} {post : Int32 → Prop}  (hF : CallFix p m c cX6_ends 3 s args wsX6_ends RX6) (hSt : zSt G s) (hret : zRi p l e ({ frames := 0, cells := 0, slots := 0, locals := 0 } : Room) s m args below meth c Q cX6_ends G false O (fun r M1 => M1 = M ∧ post r)) (x1 : Int32) (x2 : Int32) (H : Heap) (locs : List Loc) (ls : Array Slot) (hH : zH G false s H locs M O) (hl : lv_has ls 3 [(0, .ref (G.1 21)), (1, .int x1), (2, .int x2)]) (h : pX6_ends_L4 M post x1 x2) : W p l e ({ frames := 0, cells := 0, slots := 0, locals := 0 } : Room) s m args below meth c H locs 0 0 Q (F0 m 4 ls []) := by
  obtain ⟨I, ⟨n, hI⟩, hs⟩ := h
  have key : ∀ (n : Nat) (x1 : Int32) (x2 : Int32) (H : Heap) (locs : List Loc) (ls : Array Slot), I n x1 x2 → zH G false s H locs M O → lv_has ls 3 [(0, .ref (G.1 21)), (1, .int x1), (2, .int x2)] → W p l e ({ frames := 0, cells := 0, slots := 0, locals := 0 } : Room) s m args below meth c H locs 0 0 Q (F0 m 4 ls []) := by
    intro n
    induction n using Nat.strongRecOn with
    | _ n ih =>
      intro x1 x2 H locs ls hI hH hl
      exact wX6_ends_b4 hF hSt hret (fun x1 x2 H locs ls h hH hl => by obtain ⟨k, hk, hI⟩ := h; exact ih k hk x1 x2 H locs ls hI hH hl) x1 x2 H locs ls hH hl (hs n x1 x2 hI)
  exact key n x1 x2 H locs ls hI hH hl
def pX6_ends (M : zM)  (post : Int32 → Prop) : Prop :=
  pX6_ends_L4 M post (0 : Int32) (0 : Int32)
set_option maxHeartbeats 4000000 in
set_option maxRecDepth 100000 in
theorem wX6_ends {M : zM} {post : Int32 → Prop} (hF : CallFix p m c cX6_ends 3 s args wsX6_ends RX6) (hSt : zSt G s) (hret : zRi p l e ({ frames := 0, cells := 0, slots := 0, locals := 0 } : Room) s m args below meth c Q cX6_ends G false O (fun r M1 => M1 = M ∧ post r))  (H : Heap) (locs : List Loc) (ls : Array Slot) (hH : zH G false s H locs M O) (hl : lv_has ls 3 [(0, .ref (G.1 21))]) (h : pX6_ends M  post) : W p l e ({ frames := 0, cells := 0, slots := 0, locals := 0 } : Room) s m args below meth c H locs 0 0 Q (F0 m 0 ls []) := by
  obtain ⟨hx, hb, hml, hown, hts⟩ := id hF
  unfold pX6_ends at h
  refine lv_iconst (v := (0 : Int32)) hx hb dX6_ends_0 (by decide) ?_
  refine lv_istore_n (lv' := [(1, .int (0 : Int32)), (0, .ref (G.1 21))]) hx hb dX6_ends_1 rfl hl (by decide) rfl (fun ls hl => ?_)
  refine lv_iconst (v := (0 : Int32)) hx hb dX6_ends_2 (by decide) ?_
  refine lv_istore_n (lv' := [(2, .int (0 : Int32)), (1, .int (0 : Int32)), (0, .ref (G.1 21))]) hx hb dX6_ends_3 rfl hl (by decide) rfl (fun ls hl => ?_)
  exact wX6_ends_L4 hF hSt hret (0 : Int32) (0 : Int32) H locs ls hH (lv_sub hl [2, 1, 0] rfl) h
set_option maxRecDepth 100000 in
theorem kX6_ends (l : Launch) (G : zG) (M O : zM)  (post : Int32 → Prop) (h : pX6_ends M  post) : Met l yX6_ends wsX6_ends ({ frames := 0, cells := 0, slots := 0, locals := 0 } : Room) (zPc G false M O [.ref (G.1 21)]) (va_Qi (fun r M1 => M1 = M ∧ post r) (zB G false O) (zAA G)) 0 0 (zAA G) :=
  zmet_i (by decide) rfl (Nat.le_of_ble_eq_true rfl) (fun hF hSt hret H locs ls hH hl => wX6_ends hF hSt hret  H locs ls hH hl h)
end
theorem znX6_find_X6 : ∀ w ∈ wsX60, w ∈ wsX6_find := fun _ h => List.mem_cons_of_mem _ (List.mem_append_right _ h)
theorem zdX6_find : yX6_find.cls ≠ "java/lang/invoke/MethodHandle" ∧ yX6_find.cls ≠ "java/lang/invoke/VarHandle" ∧ (parseMethodDescriptor yX6_find.desc).map (fun d => d.parameters.length) = some 0 := by decide +kernel
-- MixingRelaysModel find()I
section
variable {p : Program} {l : Launch} {e : Env} {s : State} {m : MethodId} {args : Array Value} {below : List Frame} {meth : Method} {c : Code} {Q : State → Prop} {G : zG} {O : zM}
def pX6_find_b67 (post : Int32 → zM → Prop) (ag67 : Int32 → zM → Prop) (x1 : Int32) (M : zM) : Prop :=
  ((900 : Int32) ≤ x1 → post (-1 : Int32) M) ∧ (¬ ((900 : Int32) ≤ x1) → vp_in x1 900 ∧ vp_in x1 900 ∧ ag67 (x1 + (1 : Int32)) (zsi M 29 x1.toNatClampNeg (M.1 41 x1.toNatClampNeg)))
set_option maxHeartbeats 4000000 in
set_option maxRecDepth 100000 in
theorem wX6_find_b67 {post : Int32 → zM → Prop} {ag67 : Int32 → zM → Prop} (hF : CallFix p m c cX6_find 3 s args wsX6_find RX6) (hSt : zSt G s) (hret : zRi p l e ({ frames := 6, cells := 0, slots := 0, locals := 139 } : Room) s m args below meth c Q cX6_find G false O post) (hag67 : ∀ (x1 : Int32) (M : zM) (H : Heap) (locs : List Loc) (ls : Array Slot), ag67 x1 M → zH G false s H locs M O → lv_has ls 3 [(0, .ref (G.1 21)), (1, .int x1)] → W p l e ({ frames := 6, cells := 0, slots := 0, locals := 139 } : Room) s m args below meth c H locs 0 0 Q (F0 m 67 ls [])) (x1 : Int32) (M : zM) (H : Heap) (locs : List Loc) (ls : Array Slot) (hH : zH G false s H locs M O) (hl : lv_has ls 3 [(0, .ref (G.1 21)), (1, .int x1)]) (h : pX6_find_b67 post ag67 x1 M) : W p l e ({ frames := 6, cells := 0, slots := 0, locals := 139 } : Room) s m args below meth c H locs 0 0 Q (F0 m 67 ls []) := by
  obtain ⟨hx, hb, hml, hown, hts⟩ := id hF
  unfold pX6_find_b67 at h
  refine lv_iload_n hx hb dX6_find_67 rfl (lv_at hl 1 rfl) ?_
  refine lv_sipush (v := (900 : Int32)) hx hb dX6_find_68 (by decide) ?_
  refine lv_icmp_ge (tgt := 92) hx hb dX6_find_71 (by decide) (fun q71 => ?_) (fun q71 => ?_)
  · have h := h.1 q71
    refine lv_iconst (v := (-1 : Int32)) hx hb dX6_find_92 (by decide) ?_
    exact hret _ _ _ _ _ _ dX6_find_93 h hH
  · have h := h.2 q71
    refine lv_aload_n hx hb dX6_find_74 rfl (lv_at hl 0 rfl) ?_
    refine zget (v := .ref (G.1 29)) hF hSt hH 21 (by decide) rfl (zE_21 _ _ _) (C := RX6) (T := TX6) (N := 31) rfl znX6_find_X6 11 (by decide) (List.mem_of_getElem? (i := 2) rfl) rfl dX6_find_75 ?_
    refine lv_iload_n hx hb dX6_find_78 rfl (lv_at hl 1 rfl) ?_
    refine lv_aload_n hx hb dX6_find_79 rfl (lv_at hl 0 rfl) ?_
    refine zget (v := .ref (G.1 41)) hF hSt hH 21 (by decide) rfl (zE_21 _ _ _) (C := RX6) (T := TX6) (N := 31) rfl znX6_find_X6 26 (by decide) (List.mem_of_getElem? (i := 1) rfl) rfl dX6_find_80 ?_
    refine lv_iload_n hx hb dX6_find_83 rfl (lv_at hl 1 rfl) ?_
    obtain ⟨q84, h⟩ := h
    refine zald hF hSt hH 41 (by decide) rfl (zE_41 _ _ _) q84 dX6_find_84 ?_
    obtain ⟨q85, h⟩ := h
    refine zast hF hSt hH 29 (by decide) rfl (zE_29 _) (x := (M.1 41 x1.toNatClampNeg)) q85 dX6_find_85 (fun H locs hH => ?_)
    refine lv_iinc (v := (x1 + (1 : Int32))) (lv' := [(1, .int (x1 + (1 : Int32))), (0, .ref (G.1 21))]) hx hb dX6_find_86 hl (k := 1) rfl rfl (by decide) rfl (fun ls hl => ?_)
    refine lv_goto (tgt := 67) hx hb dX6_find_89 (by decide) ?_
    exact hag67 (x1 + (1 : Int32)) (zsi M 29 x1.toNatClampNeg (M.1 41 x1.toNatClampNeg)) H locs ls h hH (lv_sub hl [1, 0] rfl)
def pX6_find_L67 (post : Int32 → zM → Prop) (x1 : Int32) (M : zM) : Prop :=
  ∃ I : Nat → Int32 → zM → Prop, (∃ n, I n x1 M) ∧ ∀ n x1 M, I n x1 M → pX6_find_b67 post (fun x1 M => ∃ k, k < n ∧ I k x1 M) x1 M
set_option maxHeartbeats 4000000 in
theorem wX6_find_L67 {post : Int32 → zM → Prop}  (hF : CallFix p m c cX6_find 3 s args wsX6_find RX6) (hSt : zSt G s) (hret : zRi p l e ({ frames := 6, cells := 0, slots := 0, locals := 139 } : Room) s m args below meth c Q cX6_find G false O post) (x1 : Int32) (M : zM) (H : Heap) (locs : List Loc) (ls : Array Slot) (hH : zH G false s H locs M O) (hl : lv_has ls 3 [(0, .ref (G.1 21)), (1, .int x1)]) (h : pX6_find_L67 post x1 M) : W p l e ({ frames := 6, cells := 0, slots := 0, locals := 139 } : Room) s m args below meth c H locs 0 0 Q (F0 m 67 ls []) := by
  obtain ⟨I, ⟨n, hI⟩, hs⟩ := h
  have key : ∀ (n : Nat) (x1 : Int32) (M : zM) (H : Heap) (locs : List Loc) (ls : Array Slot), I n x1 M → zH G false s H locs M O → lv_has ls 3 [(0, .ref (G.1 21)), (1, .int x1)] → W p l e ({ frames := 6, cells := 0, slots := 0, locals := 139 } : Room) s m args below meth c H locs 0 0 Q (F0 m 67 ls []) := by
    intro n
    induction n using Nat.strongRecOn with
    | _ n ih =>
      intro x1 M H locs ls hI hH hl
      exact wX6_find_b67 hF hSt hret (fun x1 M H locs ls h hH hl => by obtain ⟨k, hk, hI⟩ := h; exact ih k hk x1 M H locs ls hI hH hl) x1 M H locs ls hH hl (hs n x1 M hI)
  exact key n x1 M H locs ls hI hH hl
def pX6_find_b38 (post : Int32 → zM → Prop) (ag38 : Int32 → zM → Prop) (x1 : Int32) (M : zM) : Prop :=
  ((40 : Int32) < x1 → pX6_find_L67 post (0 : Int32) M) ∧ (¬ ((40 : Int32) < x1) → pX6_draw M x1 (fun r46 M46 => pX6_left M46  (fun r51 M51 => (¬ (r51 = 0) → ag38 (x1 + (1 : Int32)) M51) ∧ (r51 = 0 → post x1 M51))))
set_option maxHeartbeats 4000000 in
set_option maxRecDepth 100000 in
theorem wX6_find_b38 {post : Int32 → zM → Prop} {ag38 : Int32 → zM → Prop} (hF : CallFix p m c cX6_find 3 s args wsX6_find RX6) (hSt : zSt G s) (hret : zRi p l e ({ frames := 6, cells := 0, slots := 0, locals := 139 } : Room) s m args below meth c Q cX6_find G false O post) (hag38 : ∀ (x1 : Int32) (M : zM) (H : Heap) (locs : List Loc) (ls : Array Slot), ag38 x1 M → zH G false s H locs M O → lv_has ls 3 [(0, .ref (G.1 21)), (1, .int x1)] → W p l e ({ frames := 6, cells := 0, slots := 0, locals := 139 } : Room) s m args below meth c H locs 0 0 Q (F0 m 38 ls [])) (x1 : Int32) (M : zM) (H : Heap) (locs : List Loc) (ls : Array Slot) (hH : zH G false s H locs M O) (hl : lv_has ls 3 [(0, .ref (G.1 21)), (1, .int x1)]) (h : pX6_find_b38 post ag38 x1 M) : W p l e ({ frames := 6, cells := 0, slots := 0, locals := 139 } : Room) s m args below meth c H locs 0 0 Q (F0 m 38 ls []) := by
  obtain ⟨hx, hb, hml, hown, hts⟩ := id hF
  unfold pX6_find_b38 at h
  refine lv_iload_n hx hb dX6_find_38 rfl (lv_at hl 1 rfl) ?_
  refine lv_bipush (v := (40 : Int32)) hx hb dX6_find_39 (by decide) ?_
  refine lv_icmp_gt (tgt := 65) hx hb dX6_find_41 (by decide) (fun q41 => ?_) (fun q41 => ?_)
  · have h := h.1 q41
    refine lv_iconst (v := (0 : Int32)) hx hb dX6_find_65 (by decide) ?_
    refine lv_istore_n (lv' := [(1, .int (0 : Int32)), (0, .ref (G.1 21))]) hx hb dX6_find_66 rfl hl (by decide) rfl (fun ls hl => ?_)
    exact wX6_find_L67 hF hSt hret (0 : Int32) M H locs ls hH (lv_sub hl [1, 0] rfl) h
  · have h := h.2 q41
    refine lv_aload_n hx hb dX6_find_44 rfl (lv_at hl 0 rfl) ?_
    refine lv_iload_n hx hb dX6_find_45 rfl (lv_at hl 1 rfl) ?_
    refine zcalli hH (va_runV (As := [.int x1]) (rest := []) hF (kX6_draw l G M O x1 _ h) (cwV 1 hts gX6_find_X6_draw rfl rfl rfl ⟨rfl, zdX6_draw⟩ ⟨Nat.le_of_ble_eq_true rfl, Nat.le_of_ble_eq_true rfl⟩) (zpreV hSt hH 21 (by decide) rfl (zE_21 _ _ _) (q := (RX6, TX6, 31)) rfl [.int x1]) rfl rfl hl.1 rfl (lv_room (Nat.le_of_ble_eq_true rfl)) dX6_find_46 ⟨Nat.zero_le _, Nat.zero_le _⟩) (fun r46 M46 H locs h hH => ?_)
    refine lv_istore_n (lv' := [(2, .int r46), (0, .ref (G.1 21)), (1, .int x1)]) hx hb dX6_find_49 rfl hl (by decide) rfl (fun ls hl => ?_)
    refine lv_aload_n hx hb dX6_find_50 rfl (lv_at hl 1 rfl) ?_
    refine zcalli hH (va_runV (As := []) (rest := []) hF (kX6_left l G M46 O _ h) (cwV 0 hts gX6_find_X6_left rfl rfl rfl ⟨rfl, zdX6_left⟩ ⟨Nat.le_of_ble_eq_true rfl, Nat.le_of_ble_eq_true rfl⟩) (zpreV hSt hH 21 (by decide) rfl (zE_21 _ _ _) (q := (RX6, TX6, 31)) rfl []) rfl rfl hl.1 rfl (lv_room (Nat.le_of_ble_eq_true rfl)) dX6_find_51 ⟨Nat.zero_le _, Nat.zero_le _⟩) (fun r51 M51 H locs h hH => ?_)
    refine lv_if_ne (tgt := 59) hx hb dX6_find_54 (by decide) (fun q54 => ?_) (fun q54 => ?_)
    · have h := h.1 q54
      refine lv_iinc (v := (x1 + (1 : Int32))) (lv' := [(1, .int (x1 + (1 : Int32))), (2, .int r46), (0, .ref (G.1 21))]) hx hb dX6_find_59 hl (k := 2) rfl rfl (by decide) rfl (fun ls hl => ?_)
      refine lv_goto (tgt := 38) hx hb dX6_find_62 (by decide) ?_
      exact hag38 (x1 + (1 : Int32)) M51 H locs ls h hH (lv_sub hl [2, 0] rfl)
    · have h := h.2 q54
      refine lv_iload_n hx hb dX6_find_57 rfl (lv_at hl 2 rfl) ?_
      exact hret _ _ _ _ _ _ dX6_find_58 h hH
def pX6_find_L38 (post : Int32 → zM → Prop) (x1 : Int32) (M : zM) : Prop :=
  ∃ I : Nat → Int32 → zM → Prop, (∃ n, I n x1 M) ∧ ∀ n x1 M, I n x1 M → pX6_find_b38 post (fun x1 M => ∃ k, k < n ∧ I k x1 M) x1 M
set_option maxHeartbeats 4000000 in
theorem wX6_find_L38 {post : Int32 → zM → Prop}  (hF : CallFix p m c cX6_find 3 s args wsX6_find RX6) (hSt : zSt G s) (hret : zRi p l e ({ frames := 6, cells := 0, slots := 0, locals := 139 } : Room) s m args below meth c Q cX6_find G false O post) (x1 : Int32) (M : zM) (H : Heap) (locs : List Loc) (ls : Array Slot) (hH : zH G false s H locs M O) (hl : lv_has ls 3 [(0, .ref (G.1 21)), (1, .int x1)]) (h : pX6_find_L38 post x1 M) : W p l e ({ frames := 6, cells := 0, slots := 0, locals := 139 } : Room) s m args below meth c H locs 0 0 Q (F0 m 38 ls []) := by
  obtain ⟨I, ⟨n, hI⟩, hs⟩ := h
  have key : ∀ (n : Nat) (x1 : Int32) (M : zM) (H : Heap) (locs : List Loc) (ls : Array Slot), I n x1 M → zH G false s H locs M O → lv_has ls 3 [(0, .ref (G.1 21)), (1, .int x1)] → W p l e ({ frames := 6, cells := 0, slots := 0, locals := 139 } : Room) s m args below meth c H locs 0 0 Q (F0 m 38 ls []) := by
    intro n
    induction n using Nat.strongRecOn with
    | _ n ih =>
      intro x1 M H locs ls hI hH hl
      exact wX6_find_b38 hF hSt hret (fun x1 M H locs ls h hH hl => by obtain ⟨k, hk, hI⟩ := h; exact ih k hk x1 M H locs ls hI hH hl) x1 M H locs ls hH hl (hs n x1 M hI)
  exact key n x1 M H locs ls hI hH hl
def pX6_find_b11 (post : Int32 → zM → Prop) (ag11 : Int32 → zM → Prop) (x1 : Int32) (M : zM) : Prop :=
  ((900 : Int32) ≤ x1 → pX6_find_L38 post (1 : Int32) M) ∧ (¬ ((900 : Int32) ≤ x1) → vp_in x1 900 ∧ vp_in x1 900 ∧ ag11 (x1 + (1 : Int32)) (zsi M 41 x1.toNatClampNeg (M.1 29 x1.toNatClampNeg)))
set_option maxHeartbeats 4000000 in
set_option maxRecDepth 100000 in
theorem wX6_find_b11 {post : Int32 → zM → Prop} {ag11 : Int32 → zM → Prop} (hF : CallFix p m c cX6_find 3 s args wsX6_find RX6) (hSt : zSt G s) (hret : zRi p l e ({ frames := 6, cells := 0, slots := 0, locals := 139 } : Room) s m args below meth c Q cX6_find G false O post) (hag11 : ∀ (x1 : Int32) (M : zM) (H : Heap) (locs : List Loc) (ls : Array Slot), ag11 x1 M → zH G false s H locs M O → lv_has ls 3 [(0, .ref (G.1 21)), (1, .int x1)] → W p l e ({ frames := 6, cells := 0, slots := 0, locals := 139 } : Room) s m args below meth c H locs 0 0 Q (F0 m 11 ls [])) (x1 : Int32) (M : zM) (H : Heap) (locs : List Loc) (ls : Array Slot) (hH : zH G false s H locs M O) (hl : lv_has ls 3 [(0, .ref (G.1 21)), (1, .int x1)]) (h : pX6_find_b11 post ag11 x1 M) : W p l e ({ frames := 6, cells := 0, slots := 0, locals := 139 } : Room) s m args below meth c H locs 0 0 Q (F0 m 11 ls []) := by
  obtain ⟨hx, hb, hml, hown, hts⟩ := id hF
  unfold pX6_find_b11 at h
  refine lv_iload_n hx hb dX6_find_11 rfl (lv_at hl 1 rfl) ?_
  refine lv_sipush (v := (900 : Int32)) hx hb dX6_find_12 (by decide) ?_
  refine lv_icmp_ge (tgt := 36) hx hb dX6_find_15 (by decide) (fun q15 => ?_) (fun q15 => ?_)
  · have h := h.1 q15
    refine lv_iconst (v := (1 : Int32)) hx hb dX6_find_36 (by decide) ?_
    refine lv_istore_n (lv' := [(1, .int (1 : Int32)), (0, .ref (G.1 21))]) hx hb dX6_find_37 rfl hl (by decide) rfl (fun ls hl => ?_)
    exact wX6_find_L38 hF hSt hret (1 : Int32) M H locs ls hH (lv_sub hl [1, 0] rfl) h
  · have h := h.2 q15
    refine lv_aload_n hx hb dX6_find_18 rfl (lv_at hl 0 rfl) ?_
    refine zget (v := .ref (G.1 41)) hF hSt hH 21 (by decide) rfl (zE_21 _ _ _) (C := RX6) (T := TX6) (N := 31) rfl znX6_find_X6 26 (by decide) (List.mem_of_getElem? (i := 1) rfl) rfl dX6_find_19 ?_
    refine lv_iload_n hx hb dX6_find_22 rfl (lv_at hl 1 rfl) ?_
    refine lv_aload_n hx hb dX6_find_23 rfl (lv_at hl 0 rfl) ?_
    refine zget (v := .ref (G.1 29)) hF hSt hH 21 (by decide) rfl (zE_21 _ _ _) (C := RX6) (T := TX6) (N := 31) rfl znX6_find_X6 11 (by decide) (List.mem_of_getElem? (i := 2) rfl) rfl dX6_find_24 ?_
    refine lv_iload_n hx hb dX6_find_27 rfl (lv_at hl 1 rfl) ?_
    obtain ⟨q28, h⟩ := h
    refine zald hF hSt hH 29 (by decide) rfl (zE_29 _ _ _) q28 dX6_find_28 ?_
    obtain ⟨q29, h⟩ := h
    refine zast hF hSt hH 41 (by decide) rfl (zE_41 _) (x := (M.1 29 x1.toNatClampNeg)) q29 dX6_find_29 (fun H locs hH => ?_)
    refine lv_iinc (v := (x1 + (1 : Int32))) (lv' := [(1, .int (x1 + (1 : Int32))), (0, .ref (G.1 21))]) hx hb dX6_find_30 hl (k := 1) rfl rfl (by decide) rfl (fun ls hl => ?_)
    refine lv_goto (tgt := 11) hx hb dX6_find_33 (by decide) ?_
    exact hag11 (x1 + (1 : Int32)) (zsi M 41 x1.toNatClampNeg (M.1 29 x1.toNatClampNeg)) H locs ls h hH (lv_sub hl [1, 0] rfl)
def pX6_find_L11 (post : Int32 → zM → Prop) (x1 : Int32) (M : zM) : Prop :=
  ∃ I : Nat → Int32 → zM → Prop, (∃ n, I n x1 M) ∧ ∀ n x1 M, I n x1 M → pX6_find_b11 post (fun x1 M => ∃ k, k < n ∧ I k x1 M) x1 M
set_option maxHeartbeats 4000000 in
theorem wX6_find_L11 {post : Int32 → zM → Prop}  (hF : CallFix p m c cX6_find 3 s args wsX6_find RX6) (hSt : zSt G s) (hret : zRi p l e ({ frames := 6, cells := 0, slots := 0, locals := 139 } : Room) s m args below meth c Q cX6_find G false O post) (x1 : Int32) (M : zM) (H : Heap) (locs : List Loc) (ls : Array Slot) (hH : zH G false s H locs M O) (hl : lv_has ls 3 [(0, .ref (G.1 21)), (1, .int x1)]) (h : pX6_find_L11 post x1 M) : W p l e ({ frames := 6, cells := 0, slots := 0, locals := 139 } : Room) s m args below meth c H locs 0 0 Q (F0 m 11 ls []) := by
  obtain ⟨I, ⟨n, hI⟩, hs⟩ := h
  have key : ∀ (n : Nat) (x1 : Int32) (M : zM) (H : Heap) (locs : List Loc) (ls : Array Slot), I n x1 M → zH G false s H locs M O → lv_has ls 3 [(0, .ref (G.1 21)), (1, .int x1)] → W p l e ({ frames := 6, cells := 0, slots := 0, locals := 139 } : Room) s m args below meth c H locs 0 0 Q (F0 m 11 ls []) := by
    intro n
    induction n using Nat.strongRecOn with
    | _ n ih =>
      intro x1 M H locs ls hI hH hl
      exact wX6_find_b11 hF hSt hret (fun x1 M H locs ls h hH hl => by obtain ⟨k, hk, hI⟩ := h; exact ih k hk x1 M H locs ls hI hH hl) x1 M H locs ls hH hl (hs n x1 M hI)
  exact key n x1 M H locs ls hI hH hl
def pX6_find (M : zM)  (post : Int32 → zM → Prop) : Prop :=
  pX6_ends M  (fun r1 => (¬ (r1 = 0) → pX6_find_L11 post (0 : Int32) M) ∧ (r1 = 0 → post (-1 : Int32) M))
set_option maxHeartbeats 4000000 in
set_option maxRecDepth 100000 in
theorem wX6_find {M : zM} {post : Int32 → zM → Prop} (hF : CallFix p m c cX6_find 3 s args wsX6_find RX6) (hSt : zSt G s) (hret : zRi p l e ({ frames := 6, cells := 0, slots := 0, locals := 139 } : Room) s m args below meth c Q cX6_find G false O post)  (H : Heap) (locs : List Loc) (ls : Array Slot) (hH : zH G false s H locs M O) (hl : lv_has ls 3 [(0, .ref (G.1 21))]) (h : pX6_find M  post) : W p l e ({ frames := 6, cells := 0, slots := 0, locals := 139 } : Room) s m args below meth c H locs 0 0 Q (F0 m 0 ls []) := by
  obtain ⟨hx, hb, hml, hown, hts⟩ := id hF
  unfold pX6_find at h
  refine lv_aload_n hx hb dX6_find_0 rfl (lv_at hl 0 rfl) ?_
  refine zcalliP hH (va_runV (As := []) (rest := []) hF (kX6_ends l G M O _ h) (cwV 0 hts gX6_find_X6_ends rfl rfl rfl ⟨rfl, zdX6_ends⟩ ⟨Nat.le_of_ble_eq_true rfl, Nat.le_of_ble_eq_true rfl⟩) (zpreV hSt hH 21 (by decide) rfl (zE_21 _ _ _) (q := (RX6, TX6, 31)) rfl []) rfl rfl hl.1 rfl (lv_room (Nat.le_of_ble_eq_true rfl)) dX6_find_1 ⟨Nat.zero_le _, Nat.zero_le _⟩) (fun r1 H locs h hH => ?_)
  refine lv_if_ne (tgt := 9) hx hb dX6_find_4 (by decide) (fun q4 => ?_) (fun q4 => ?_)
  · have h := h.1 q4
    refine lv_iconst (v := (0 : Int32)) hx hb dX6_find_9 (by decide) ?_
    refine lv_istore_n (lv' := [(1, .int (0 : Int32)), (0, .ref (G.1 21))]) hx hb dX6_find_10 rfl hl (by decide) rfl (fun ls hl => ?_)
    exact wX6_find_L11 hF hSt hret (0 : Int32) M H locs ls hH (lv_sub hl [1, 0] rfl) h
  · have h := h.2 q4
    refine lv_iconst (v := (-1 : Int32)) hx hb dX6_find_7 (by decide) ?_
    exact hret _ _ _ _ _ _ dX6_find_8 h hH
set_option maxRecDepth 100000 in
theorem kX6_find (l : Launch) (G : zG) (M O : zM)  (post : Int32 → zM → Prop) (h : pX6_find M  post) : Met l yX6_find wsX6_find ({ frames := 6, cells := 0, slots := 0, locals := 139 } : Room) (zPc G false M O [.ref (G.1 21)]) (va_Qi post (zB G false O) (zAA G)) 0 0 (zAA G) :=
  zmet_i (by decide) rfl (Nat.le_of_ble_eq_true rfl) (fun hF hSt hret H locs ls hH hl => wX6_find hF hSt hret  H locs ls hH hl h)
end
theorem znX6_isAsBefore_X6 : ∀ w ∈ wsX60, w ∈ wsX6_isAsBefore := fun _ h => List.mem_cons_of_mem _ (List.mem_append_right _ h)
theorem zdX6_isAsBefore : yX6_isAsBefore.cls ≠ "java/lang/invoke/MethodHandle" ∧ yX6_isAsBefore.cls ≠ "java/lang/invoke/VarHandle" ∧ (parseMethodDescriptor yX6_isAsBefore.desc).map (fun d => d.parameters.length) = some 0 := by decide +kernel
-- MixingRelaysModel isAsBefore()Z
section
variable {p : Program} {l : Launch} {e : Env} {s : State} {m : MethodId} {args : Array Value} {below : List Frame} {meth : Method} {c : Code} {Q : State → Prop} {G : zG} {O : zM}
def pX6_isAsBefore_b39 (post : Int32 → zM → Prop) (ag6 : Int32 → zM → Prop) (x1 : Int32) (M : zM) : Prop :=
  ag6 (x1 + (1 : Int32)) M
set_option maxHeartbeats 4000000 in
set_option maxRecDepth 100000 in
theorem wX6_isAsBefore_b39 {post : Int32 → zM → Prop} {ag6 : Int32 → zM → Prop} (hF : CallFix p m c cX6_isAsBefore 2 s args wsX6_isAsBefore RX6) (hSt : zSt G s) (hret : zRz p l e ({ frames := 5, cells := 0, slots := 0, locals := 116 } : Room) s m args below meth c Q cX6_isAsBefore G false O post) (hag6 : ∀ (x1 : Int32) (M : zM) (H : Heap) (locs : List Loc) (ls : Array Slot), ag6 x1 M → zH G false s H locs M O → lv_has ls 2 [(0, .ref (G.1 21)), (1, .int x1)] → W p l e ({ frames := 5, cells := 0, slots := 0, locals := 116 } : Room) s m args below meth c H locs 0 0 Q (F0 m 6 ls [])) (x1 : Int32) (M : zM) (H : Heap) (locs : List Loc) (ls : Array Slot) (hH : zH G false s H locs M O) (hl : lv_has ls 2 [(0, .ref (G.1 21)), (1, .int x1)]) (h : pX6_isAsBefore_b39 post ag6 x1 M) : W p l e ({ frames := 5, cells := 0, slots := 0, locals := 116 } : Room) s m args below meth c H locs 0 0 Q (F0 m 39 ls []) := by
  obtain ⟨hx, hb, hml, hown, hts⟩ := id hF
  unfold pX6_isAsBefore_b39 at h
  refine lv_iinc (v := (x1 + (1 : Int32))) (lv' := [(1, .int (x1 + (1 : Int32))), (0, .ref (G.1 21))]) hx hb dX6_isAsBefore_39 hl (k := 1) rfl rfl (by decide) rfl (fun ls hl => ?_)
  refine lv_goto (tgt := 6) hx hb dX6_isAsBefore_42 (by decide) ?_
  exact hag6 (x1 + (1 : Int32)) M H locs ls h hH (lv_sub hl [1, 0] rfl)
def pX6_isAsBefore_b6 (post : Int32 → zM → Prop) (ag6 : Int32 → zM → Prop) (x1 : Int32) (M : zM) : Prop :=
  ((M.1 21 1) ≤ x1 → ((1 : Int32) = 0 ∨ (1 : Int32) = 1) ∧ post (1 : Int32) M) ∧ (¬ ((M.1 21 1) ≤ x1) → vp_in x1 12 ∧ ((M.1 23 x1.toNatClampNeg) = 0 → pX6_isAsBefore_b39 post ag6 x1 M) ∧ (¬ ((M.1 23 x1.toNatClampNeg) = 0) → pX6_rankOf M x1 (fun r25 M25 => vp_in x1 12 ∧ (r25 = (M25.1 42 x1.toNatClampNeg) → pX6_isAsBefore_b39 post ag6 x1 M25) ∧ (¬ (r25 = (M25.1 42 x1.toNatClampNeg)) → ((0 : Int32) = 0 ∨ (0 : Int32) = 1) ∧ post (0 : Int32) M25))))
set_option maxHeartbeats 4000000 in
set_option maxRecDepth 100000 in
theorem wX6_isAsBefore_b6 {post : Int32 → zM → Prop} {ag6 : Int32 → zM → Prop} (hF : CallFix p m c cX6_isAsBefore 2 s args wsX6_isAsBefore RX6) (hSt : zSt G s) (hret : zRz p l e ({ frames := 5, cells := 0, slots := 0, locals := 116 } : Room) s m args below meth c Q cX6_isAsBefore G false O post) (hag6 : ∀ (x1 : Int32) (M : zM) (H : Heap) (locs : List Loc) (ls : Array Slot), ag6 x1 M → zH G false s H locs M O → lv_has ls 2 [(0, .ref (G.1 21)), (1, .int x1)] → W p l e ({ frames := 5, cells := 0, slots := 0, locals := 116 } : Room) s m args below meth c H locs 0 0 Q (F0 m 6 ls [])) (x1 : Int32) (M : zM) (H : Heap) (locs : List Loc) (ls : Array Slot) (hH : zH G false s H locs M O) (hl : lv_has ls 2 [(0, .ref (G.1 21)), (1, .int x1)]) (h : pX6_isAsBefore_b6 post ag6 x1 M) : W p l e ({ frames := 5, cells := 0, slots := 0, locals := 116 } : Room) s m args below meth c H locs 0 0 Q (F0 m 6 ls []) := by
  obtain ⟨hx, hb, hml, hown, hts⟩ := id hF
  unfold pX6_isAsBefore_b6 at h
  refine lv_iload_n hx hb dX6_isAsBefore_6 rfl (lv_at hl 1 rfl) ?_
  refine lv_aload_n hx hb dX6_isAsBefore_7 rfl (lv_at hl 0 rfl) ?_
  refine zget (v := .int (M.1 21 1)) hF hSt hH 21 (by decide) rfl (zE_21 _ _ _) (C := RX6) (T := TX6) (N := 31) rfl znX6_isAsBefore_X6 1 (by decide) (List.mem_of_getElem? (i := 1) rfl) rfl dX6_isAsBefore_8 ?_
  refine lv_icmp_ge (tgt := 45) hx hb dX6_isAsBefore_11 (by decide) (fun q11 => ?_) (fun q11 => ?_)
  · have h := h.1 q11
    refine lv_iconst (v := (1 : Int32)) hx hb dX6_isAsBefore_45 (by decide) ?_
    exact hret _ _ _ _ _ _ dX6_isAsBefore_46 h hH
  · have h := h.2 q11
    refine lv_aload_n hx hb dX6_isAsBefore_14 rfl (lv_at hl 0 rfl) ?_
    refine zget (v := .ref (G.1 23)) hF hSt hH 21 (by decide) rfl (zE_21 _ _ _) (C := RX6) (T := TX6) (N := 31) rfl znX6_isAsBefore_X6 5 (by decide) (List.mem_of_getElem? (i := 2) rfl) rfl dX6_isAsBefore_15 ?_
    refine lv_iload_n hx hb dX6_isAsBefore_18 rfl (lv_at hl 1 rfl) ?_
    obtain ⟨q19, h⟩ := h
    refine zzald hF hSt hH 23 (by decide) rfl (zE_23 _ _ _) q19 dX6_isAsBefore_19 ?_
    refine lv_if_eq (tgt := 39) hx hb dX6_isAsBefore_20 (by decide) (fun q20 => ?_) (fun q20 => ?_)
    · have h := h.1 q20
      exact wX6_isAsBefore_b39 hF hSt hret hag6 x1 M H locs ls hH (lv_sub hl [0, 1] rfl) h
    · have h := h.2 q20
      refine lv_aload_n hx hb dX6_isAsBefore_23 rfl (lv_at hl 0 rfl) ?_
      refine lv_iload_n hx hb dX6_isAsBefore_24 rfl (lv_at hl 1 rfl) ?_
      refine zcalli hH (va_runV (As := [.int x1]) (rest := []) hF (kX6_rankOf l G M O x1 _ h) (cwV 1 hts gX6_isAsBefore_X6_rankOf rfl rfl rfl ⟨rfl, zdX6_rankOf⟩ ⟨Nat.le_of_ble_eq_true rfl, Nat.le_of_ble_eq_true rfl⟩) (zpreV hSt hH 21 (by decide) rfl (zE_21 _ _ _) (q := (RX6, TX6, 31)) rfl [.int x1]) rfl rfl hl.1 rfl (lv_room (Nat.le_of_ble_eq_true rfl)) dX6_isAsBefore_25 ⟨Nat.zero_le _, Nat.zero_le _⟩) (fun r25 M25 H locs h hH => ?_)
      refine lv_aload_n hx hb dX6_isAsBefore_28 rfl (lv_at hl 0 rfl) ?_
      refine zget (v := .ref (G.1 42)) hF hSt hH 21 (by decide) rfl (zE_21 _ _ _) (C := RX6) (T := TX6) (N := 31) rfl znX6_isAsBefore_X6 27 (by decide) (List.mem_of_getElem? (i := 3) rfl) rfl dX6_isAsBefore_29 ?_
      refine lv_iload_n hx hb dX6_isAsBefore_32 rfl (lv_at hl 1 rfl) ?_
      obtain ⟨q33, h⟩ := h
      refine zald hF hSt hH 42 (by decide) rfl (zE_42 _ _ _) q33 dX6_isAsBefore_33 ?_
      refine lv_icmp_eq (tgt := 39) hx hb dX6_isAsBefore_34 (by decide) (fun q34 => ?_) (fun q34 => ?_)
      · have h := h.1 q34
        exact wX6_isAsBefore_b39 hF hSt hret hag6 x1 M25 H locs ls hH (lv_sub hl [0, 1] rfl) h
      · have h := h.2 q34
        refine lv_iconst (v := (0 : Int32)) hx hb dX6_isAsBefore_37 (by decide) ?_
        exact hret _ _ _ _ _ _ dX6_isAsBefore_38 h hH
def pX6_isAsBefore_L6 (post : Int32 → zM → Prop) (x1 : Int32) (M : zM) : Prop :=
  ∃ I : Nat → Int32 → zM → Prop, (∃ n, I n x1 M) ∧ ∀ n x1 M, I n x1 M → pX6_isAsBefore_b6 post (fun x1 M => ∃ k, k < n ∧ I k x1 M) x1 M
set_option maxHeartbeats 4000000 in
theorem wX6_isAsBefore_L6 {post : Int32 → zM → Prop}  (hF : CallFix p m c cX6_isAsBefore 2 s args wsX6_isAsBefore RX6) (hSt : zSt G s) (hret : zRz p l e ({ frames := 5, cells := 0, slots := 0, locals := 116 } : Room) s m args below meth c Q cX6_isAsBefore G false O post) (x1 : Int32) (M : zM) (H : Heap) (locs : List Loc) (ls : Array Slot) (hH : zH G false s H locs M O) (hl : lv_has ls 2 [(0, .ref (G.1 21)), (1, .int x1)]) (h : pX6_isAsBefore_L6 post x1 M) : W p l e ({ frames := 5, cells := 0, slots := 0, locals := 116 } : Room) s m args below meth c H locs 0 0 Q (F0 m 6 ls []) := by
  obtain ⟨I, ⟨n, hI⟩, hs⟩ := h
  have key : ∀ (n : Nat) (x1 : Int32) (M : zM) (H : Heap) (locs : List Loc) (ls : Array Slot), I n x1 M → zH G false s H locs M O → lv_has ls 2 [(0, .ref (G.1 21)), (1, .int x1)] → W p l e ({ frames := 5, cells := 0, slots := 0, locals := 116 } : Room) s m args below meth c H locs 0 0 Q (F0 m 6 ls []) := by
    intro n
    induction n using Nat.strongRecOn with
    | _ n ih =>
      intro x1 M H locs ls hI hH hl
      exact wX6_isAsBefore_b6 hF hSt hret (fun x1 M H locs ls h hH hl => by obtain ⟨k, hk, hI⟩ := h; exact ih k hk x1 M H locs ls hI hH hl) x1 M H locs ls hH hl (hs n x1 M hI)
  exact key n x1 M H locs ls hI hH hl
def pX6_isAsBefore (M : zM)  (post : Int32 → zM → Prop) : Prop :=
  pX6_work M  (fun M1 => pX6_isAsBefore_L6 post (1 : Int32) M1)
set_option maxHeartbeats 4000000 in
set_option maxRecDepth 100000 in
theorem wX6_isAsBefore {M : zM} {post : Int32 → zM → Prop} (hF : CallFix p m c cX6_isAsBefore 2 s args wsX6_isAsBefore RX6) (hSt : zSt G s) (hret : zRz p l e ({ frames := 5, cells := 0, slots := 0, locals := 116 } : Room) s m args below meth c Q cX6_isAsBefore G false O post)  (H : Heap) (locs : List Loc) (ls : Array Slot) (hH : zH G false s H locs M O) (hl : lv_has ls 2 [(0, .ref (G.1 21))]) (h : pX6_isAsBefore M  post) : W p l e ({ frames := 5, cells := 0, slots := 0, locals := 116 } : Room) s m args below meth c H locs 0 0 Q (F0 m 0 ls []) := by
  obtain ⟨hx, hb, hml, hown, hts⟩ := id hF
  unfold pX6_isAsBefore at h
  refine lv_aload_n hx hb dX6_isAsBefore_0 rfl (lv_at hl 0 rfl) ?_
  refine zcallv hH (va_runV (As := []) (rest := []) hF (kX6_work l G M O _ h) (cwV 0 hts gX6_isAsBefore_X6_work rfl rfl rfl ⟨rfl, zdX6_work⟩ ⟨Nat.le_of_ble_eq_true rfl, Nat.le_of_ble_eq_true rfl⟩) (zpreV hSt hH 21 (by decide) rfl (zE_21 _ _ _) (q := (RX6, TX6, 31)) rfl []) rfl rfl hl.1 rfl (lv_room (Nat.le_of_ble_eq_true rfl)) dX6_isAsBefore_1 ⟨Nat.zero_le _, Nat.zero_le _⟩) (fun M1 H locs h hH => ?_)
  refine lv_iconst (v := (1 : Int32)) hx hb dX6_isAsBefore_4 (by decide) ?_
  refine lv_istore_n (lv' := [(1, .int (1 : Int32)), (0, .ref (G.1 21))]) hx hb dX6_isAsBefore_5 rfl hl (by decide) rfl (fun ls hl => ?_)
  exact wX6_isAsBefore_L6 hF hSt hret (1 : Int32) M1 H locs ls hH (lv_sub hl [1, 0] rfl) h
set_option maxRecDepth 100000 in
theorem kX6_isAsBefore (l : Launch) (G : zG) (M O : zM)  (post : Int32 → zM → Prop) (h : pX6_isAsBefore M  post) : Met l yX6_isAsBefore wsX6_isAsBefore ({ frames := 5, cells := 0, slots := 0, locals := 116 } : Room) (zPc G false M O [.ref (G.1 21)]) (va_Qi post (zB G false O) (zAA G)) 0 0 (zAA G) :=
  zmet_z (by decide) rfl (Nat.le_of_ble_eq_true rfl) (fun hF hSt hret H locs ls hH hl => wX6_isAsBefore hF hSt hret  H locs ls hH hl h)
end
theorem znX6_leaves_X6 : ∀ w ∈ wsX60, w ∈ wsX6_leaves := fun _ h => List.mem_cons_of_mem _ (List.mem_append_right _ h)
theorem zdX6_leaves : yX6_leaves.cls ≠ "java/lang/invoke/MethodHandle" ∧ yX6_leaves.cls ≠ "java/lang/invoke/VarHandle" ∧ (parseMethodDescriptor yX6_leaves.desc).map (fun d => d.parameters.length) = some 1 := by decide +kernel
-- MixingRelaysModel leaves(I)Z
section
variable {p : Program} {l : Launch} {e : Env} {s : State} {m : MethodId} {args : Array Value} {below : List Frame} {meth : Method} {c : Code} {Q : State → Prop} {G : zG} {O : zM}
def pX6_leaves_b98 (post : Int32 → zM → Prop) (ag98 : Int32 → Int32 → Int32 → zM → Prop) (x1 : Int32) (x2 : Int32) (x3 : Int32) (M : zM) : Prop :=
  (x2 ≤ x3 → ((0 : Int32) = 0 ∨ (0 : Int32) = 1) ∧ post (0 : Int32) M) ∧ (¬ (x2 ≤ x3) → vp_in x3 900 ∧ vp_in (((30 : Int32) * x1) + x3) 900 ∧ ag98 x1 x2 (x3 + (1 : Int32)) (zsi M 29 ((((30 : Int32) * x1) + x3)).toNatClampNeg (M.1 41 x3.toNatClampNeg)))
set_option maxHeartbeats 4000000 in
set_option maxRecDepth 100000 in
theorem wX6_leaves_b98 {post : Int32 → zM → Prop} {ag98 : Int32 → Int32 → Int32 → zM → Prop} (hF : CallFix p m c cX6_leaves 5 s args wsX6_leaves RX6) (hSt : zSt G s) (hret : zRz p l e ({ frames := 6, cells := 0, slots := 0, locals := 137 } : Room) s m args below meth c Q cX6_leaves G false O post) (hag98 : ∀ (x1 : Int32) (x2 : Int32) (x3 : Int32) (M : zM) (H : Heap) (locs : List Loc) (ls : Array Slot), ag98 x1 x2 x3 M → zH G false s H locs M O → lv_has ls 5 [(0, .ref (G.1 21)), (1, .int x1), (2, .int x2), (3, .int x3)] → W p l e ({ frames := 6, cells := 0, slots := 0, locals := 137 } : Room) s m args below meth c H locs 0 0 Q (F0 m 98 ls [])) (x1 : Int32) (x2 : Int32) (x3 : Int32) (M : zM) (H : Heap) (locs : List Loc) (ls : Array Slot) (hH : zH G false s H locs M O) (hl : lv_has ls 5 [(0, .ref (G.1 21)), (1, .int x1), (2, .int x2), (3, .int x3)]) (h : pX6_leaves_b98 post ag98 x1 x2 x3 M) : W p l e ({ frames := 6, cells := 0, slots := 0, locals := 137 } : Room) s m args below meth c H locs 0 0 Q (F0 m 98 ls []) := by
  obtain ⟨hx, hb, hml, hown, hts⟩ := id hF
  unfold pX6_leaves_b98 at h
  refine lv_iload_n hx hb dX6_leaves_98 rfl (lv_at hl 3 rfl) ?_
  refine lv_iload_n hx hb dX6_leaves_99 rfl (lv_at hl 2 rfl) ?_
  refine lv_icmp_ge (tgt := 126) hx hb dX6_leaves_100 (by decide) (fun q100 => ?_) (fun q100 => ?_)
  · have h := h.1 q100
    refine lv_iconst (v := (0 : Int32)) hx hb dX6_leaves_126 (by decide) ?_
    exact hret _ _ _ _ _ _ dX6_leaves_127 h hH
  · have h := h.2 q100
    refine lv_aload_n hx hb dX6_leaves_103 rfl (lv_at hl 0 rfl) ?_
    refine zget (v := .ref (G.1 29)) hF hSt hH 21 (by decide) rfl (zE_21 _ _ _) (C := RX6) (T := TX6) (N := 31) rfl znX6_leaves_X6 11 (by decide) (List.mem_of_getElem? (i := 2) rfl) rfl dX6_leaves_104 ?_
    refine lv_bipush (v := (30 : Int32)) hx hb dX6_leaves_107 (by decide) ?_
    refine lv_iload_n hx hb dX6_leaves_109 rfl (lv_at hl 1 rfl) ?_
    refine lv_imul hx hb dX6_leaves_110 ?_
    refine lv_iload_n hx hb dX6_leaves_111 rfl (lv_at hl 3 rfl) ?_
    refine lv_iadd hx hb dX6_leaves_112 ?_
    refine lv_aload_n hx hb dX6_leaves_113 rfl (lv_at hl 0 rfl) ?_
    refine zget (v := .ref (G.1 41)) hF hSt hH 21 (by decide) rfl (zE_21 _ _ _) (C := RX6) (T := TX6) (N := 31) rfl znX6_leaves_X6 26 (by decide) (List.mem_of_getElem? (i := 1) rfl) rfl dX6_leaves_114 ?_
    refine lv_iload_n hx hb dX6_leaves_117 rfl (lv_at hl 3 rfl) ?_
    obtain ⟨q118, h⟩ := h
    refine zald hF hSt hH 41 (by decide) rfl (zE_41 _ _ _) q118 dX6_leaves_118 ?_
    obtain ⟨q119, h⟩ := h
    refine zast hF hSt hH 29 (by decide) rfl (zE_29 _) (x := (M.1 41 x3.toNatClampNeg)) q119 dX6_leaves_119 (fun H locs hH => ?_)
    refine lv_iinc (v := (x3 + (1 : Int32))) (lv' := [(3, .int (x3 + (1 : Int32))), (0, .ref (G.1 21)), (1, .int x1), (2, .int x2)]) hx hb dX6_leaves_120 hl (k := 3) rfl rfl (by decide) rfl (fun ls hl => ?_)
    refine lv_goto (tgt := 98) hx hb dX6_leaves_123 (by decide) ?_
    exact hag98 x1 x2 (x3 + (1 : Int32)) (zsi M 29 ((((30 : Int32) * x1) + x3)).toNatClampNeg (M.1 41 x3.toNatClampNeg)) H locs ls h hH (lv_sub hl [1, 2, 3, 0] rfl)
def pX6_leaves_L98 (post : Int32 → zM → Prop) (x1 : Int32) (x2 : Int32) (x3 : Int32) (M : zM) : Prop :=
  ∃ I : Nat → Int32 → Int32 → Int32 → zM → Prop, (∃ n, I n x1 x2 x3 M) ∧ ∀ n x1 x2 x3 M, I n x1 x2 x3 M → pX6_leaves_b98 post (fun x1 x2 x3 M => ∃ k, k < n ∧ I k x1 x2 x3 M) x1 x2 x3 M
set_option maxHeartbeats 4000000 in
theorem wX6_leaves_L98 {post : Int32 → zM → Prop}  (hF : CallFix p m c cX6_leaves 5 s args wsX6_leaves RX6) (hSt : zSt G s) (hret : zRz p l e ({ frames := 6, cells := 0, slots := 0, locals := 137 } : Room) s m args below meth c Q cX6_leaves G false O post) (x1 : Int32) (x2 : Int32) (x3 : Int32) (M : zM) (H : Heap) (locs : List Loc) (ls : Array Slot) (hH : zH G false s H locs M O) (hl : lv_has ls 5 [(0, .ref (G.1 21)), (1, .int x1), (2, .int x2), (3, .int x3)]) (h : pX6_leaves_L98 post x1 x2 x3 M) : W p l e ({ frames := 6, cells := 0, slots := 0, locals := 137 } : Room) s m args below meth c H locs 0 0 Q (F0 m 98 ls []) := by
  obtain ⟨I, ⟨n, hI⟩, hs⟩ := h
  have key : ∀ (n : Nat) (x1 : Int32) (x2 : Int32) (x3 : Int32) (M : zM) (H : Heap) (locs : List Loc) (ls : Array Slot), I n x1 x2 x3 M → zH G false s H locs M O → lv_has ls 5 [(0, .ref (G.1 21)), (1, .int x1), (2, .int x2), (3, .int x3)] → W p l e ({ frames := 6, cells := 0, slots := 0, locals := 137 } : Room) s m args below meth c H locs 0 0 Q (F0 m 98 ls []) := by
    intro n
    induction n using Nat.strongRecOn with
    | _ n ih =>
      intro x1 x2 x3 M H locs ls hI hH hl
      exact wX6_leaves_b98 hF hSt hret (fun x1 x2 x3 M H locs ls h hH hl => by obtain ⟨k, hk, hI⟩ := h; exact ih k hk x1 x2 x3 M H locs ls hI hH hl) x1 x2 x3 M H locs ls hH hl (hs n x1 x2 x3 M hI)
  exact key n x1 x2 x3 M H locs ls hI hH hl
def pX6_leaves_b74 (post : Int32 → zM → Prop) (ag38 : Int32 → Int32 → Int32 → zM → Prop) (ag46 : Int32 → Int32 → Int32 → Int32 → zM → Prop) (x1 : Int32) (x2 : Int32) (x3 : Int32) (x4 : Int32) (t0 : Int32) (t1 : Int32) (M : zM) : Prop :=
  vp_in t1 900 ∧ ag46 x1 x2 x3 (x4 + (1 : Int32)) (zsi M 29 t1.toNatClampNeg t0)
set_option maxHeartbeats 4000000 in
set_option maxRecDepth 100000 in
theorem wX6_leaves_b74 {post : Int32 → zM → Prop} {ag38 : Int32 → Int32 → Int32 → zM → Prop} {ag46 : Int32 → Int32 → Int32 → Int32 → zM → Prop} (hF : CallFix p m c cX6_leaves 5 s args wsX6_leaves RX6) (hSt : zSt G s) (hret : zRz p l e ({ frames := 6, cells := 0, slots := 0, locals := 137 } : Room) s m args below meth c Q cX6_leaves G false O post) (hag38 : ∀ (x1 : Int32) (x2 : Int32) (x3 : Int32) (M : zM) (H : Heap) (locs : List Loc) (ls : Array Slot), ag38 x1 x2 x3 M → zH G false s H locs M O → lv_has ls 5 [(0, .ref (G.1 21)), (1, .int x1), (2, .int x2), (3, .int x3)] → W p l e ({ frames := 6, cells := 0, slots := 0, locals := 137 } : Room) s m args below meth c H locs 0 0 Q (F0 m 38 ls [])) (hag46 : ∀ (x1 : Int32) (x2 : Int32) (x3 : Int32) (x4 : Int32) (M : zM) (H : Heap) (locs : List Loc) (ls : Array Slot), ag46 x1 x2 x3 x4 M → zH G false s H locs M O → lv_has ls 5 [(0, .ref (G.1 21)), (1, .int x1), (2, .int x2), (3, .int x3), (4, .int x4)] → W p l e ({ frames := 6, cells := 0, slots := 0, locals := 137 } : Room) s m args below meth c H locs 0 0 Q (F0 m 46 ls [])) (x1 : Int32) (x2 : Int32) (x3 : Int32) (x4 : Int32) (t0 : Int32) (t1 : Int32) (M : zM) (H : Heap) (locs : List Loc) (ls : Array Slot) (hH : zH G false s H locs M O) (hl : lv_has ls 5 [(0, .ref (G.1 21)), (1, .int x1), (2, .int x2), (3, .int x3), (4, .int x4)]) (h : pX6_leaves_b74 post ag38 ag46 x1 x2 x3 x4 t0 t1 M) : W p l e ({ frames := 6, cells := 0, slots := 0, locals := 137 } : Room) s m args below meth c H locs 0 0 Q (F0 m 74 ls [.int t0, .int t1, .ref (G.1 29)]) := by
  obtain ⟨hx, hb, hml, hown, hts⟩ := id hF
  unfold pX6_leaves_b74 at h
  obtain ⟨q74, h⟩ := h
  refine zast hF hSt hH 29 (by decide) rfl (zE_29 _) (x := t0) q74 dX6_leaves_74 (fun H locs hH => ?_)
  refine lv_iinc (v := (x4 + (1 : Int32))) (lv' := [(4, .int (x4 + (1 : Int32))), (0, .ref (G.1 21)), (1, .int x1), (2, .int x2), (3, .int x3)]) hx hb dX6_leaves_75 hl (k := 4) rfl rfl (by decide) rfl (fun ls hl => ?_)
  refine lv_goto (tgt := 46) hx hb dX6_leaves_78 (by decide) ?_
  exact hag46 x1 x2 x3 (x4 + (1 : Int32)) (zsi M 29 t1.toNatClampNeg t0) H locs ls h hH (lv_sub hl [1, 2, 3, 4, 0] rfl)
def pX6_leaves_b46 (post : Int32 → zM → Prop) (ag38 : Int32 → Int32 → Int32 → zM → Prop) (ag46 : Int32 → Int32 → Int32 → Int32 → zM → Prop) (x1 : Int32) (x2 : Int32) (x3 : Int32) (x4 : Int32) (M : zM) : Prop :=
  (x2 ≤ x4 → pX6_isAsBefore M  (fun r82 M82 => (r82 = 0 → ag38 x1 x2 (x3 + (1 : Int32)) M82) ∧ (¬ (r82 = 0) → ((1 : Int32) = 0 ∨ (1 : Int32) = 1) ∧ post (1 : Int32) M82))) ∧ (¬ (x2 ≤ x4) → (¬ (x4 = x3) → pX6_leaves_b74 post ag38 ag46 x1 x2 x3 x4 (0 : Int32) (((30 : Int32) * x1) + x4) M) ∧ (x4 = x3 → pX6_leaves_b74 post ag38 ag46 x1 x2 x3 x4 (1 : Int32) (((30 : Int32) * x1) + x4) M))
set_option maxHeartbeats 4000000 in
set_option maxRecDepth 100000 in
theorem wX6_leaves_b46 {post : Int32 → zM → Prop} {ag38 : Int32 → Int32 → Int32 → zM → Prop} {ag46 : Int32 → Int32 → Int32 → Int32 → zM → Prop} (hF : CallFix p m c cX6_leaves 5 s args wsX6_leaves RX6) (hSt : zSt G s) (hret : zRz p l e ({ frames := 6, cells := 0, slots := 0, locals := 137 } : Room) s m args below meth c Q cX6_leaves G false O post) (hag38 : ∀ (x1 : Int32) (x2 : Int32) (x3 : Int32) (M : zM) (H : Heap) (locs : List Loc) (ls : Array Slot), ag38 x1 x2 x3 M → zH G false s H locs M O → lv_has ls 5 [(0, .ref (G.1 21)), (1, .int x1), (2, .int x2), (3, .int x3)] → W p l e ({ frames := 6, cells := 0, slots := 0, locals := 137 } : Room) s m args below meth c H locs 0 0 Q (F0 m 38 ls [])) (hag46 : ∀ (x1 : Int32) (x2 : Int32) (x3 : Int32) (x4 : Int32) (M : zM) (H : Heap) (locs : List Loc) (ls : Array Slot), ag46 x1 x2 x3 x4 M → zH G false s H locs M O → lv_has ls 5 [(0, .ref (G.1 21)), (1, .int x1), (2, .int x2), (3, .int x3), (4, .int x4)] → W p l e ({ frames := 6, cells := 0, slots := 0, locals := 137 } : Room) s m args below meth c H locs 0 0 Q (F0 m 46 ls [])) (x1 : Int32) (x2 : Int32) (x3 : Int32) (x4 : Int32) (M : zM) (H : Heap) (locs : List Loc) (ls : Array Slot) (hH : zH G false s H locs M O) (hl : lv_has ls 5 [(0, .ref (G.1 21)), (1, .int x1), (2, .int x2), (3, .int x3), (4, .int x4)]) (h : pX6_leaves_b46 post ag38 ag46 x1 x2 x3 x4 M) : W p l e ({ frames := 6, cells := 0, slots := 0, locals := 137 } : Room) s m args below meth c H locs 0 0 Q (F0 m 46 ls []) := by
  obtain ⟨hx, hb, hml, hown, hts⟩ := id hF
  unfold pX6_leaves_b46 at h
  refine lv_iload hx hb dX6_leaves_46 (lv_at hl 4 rfl) ?_
  refine lv_iload_n hx hb dX6_leaves_48 rfl (lv_at hl 2 rfl) ?_
  refine lv_icmp_ge (tgt := 81) hx hb dX6_leaves_49 (by decide) (fun q49 => ?_) (fun q49 => ?_)
  · have h := h.1 q49
    refine lv_aload_n hx hb dX6_leaves_81 rfl (lv_at hl 0 rfl) ?_
    refine zcalli hH (va_runV (As := []) (rest := []) hF (kX6_isAsBefore l G M O _ h) (cwV 0 hts gX6_leaves_X6_isAsBefore rfl rfl rfl ⟨rfl, zdX6_isAsBefore⟩ ⟨Nat.le_of_ble_eq_true rfl, Nat.le_of_ble_eq_true rfl⟩) (zpreV hSt hH 21 (by decide) rfl (zE_21 _ _ _) (q := (RX6, TX6, 31)) rfl []) rfl rfl hl.1 rfl (lv_room (Nat.le_of_ble_eq_true rfl)) dX6_leaves_82 ⟨Nat.zero_le _, Nat.zero_le _⟩) (fun r82 M82 H locs h hH => ?_)
    refine lv_if_eq (tgt := 90) hx hb dX6_leaves_85 (by decide) (fun q85 => ?_) (fun q85 => ?_)
    · have h := h.1 q85
      refine lv_iinc (v := (x3 + (1 : Int32))) (lv' := [(3, .int (x3 + (1 : Int32))), (0, .ref (G.1 21)), (1, .int x1), (2, .int x2), (4, .int x4)]) hx hb dX6_leaves_90 hl (k := 3) rfl rfl (by decide) rfl (fun ls hl => ?_)
      refine lv_goto (tgt := 38) hx hb dX6_leaves_93 (by decide) ?_
      exact hag38 x1 x2 (x3 + (1 : Int32)) M82 H locs ls h hH (lv_sub hl [1, 2, 3, 0] rfl)
    · have h := h.2 q85
      refine lv_iconst (v := (1 : Int32)) hx hb dX6_leaves_88 (by decide) ?_
      exact hret _ _ _ _ _ _ dX6_leaves_89 h hH
  · have h := h.2 q49
    refine lv_aload_n hx hb dX6_leaves_52 rfl (lv_at hl 0 rfl) ?_
    refine zget (v := .ref (G.1 29)) hF hSt hH 21 (by decide) rfl (zE_21 _ _ _) (C := RX6) (T := TX6) (N := 31) rfl znX6_leaves_X6 11 (by decide) (List.mem_of_getElem? (i := 2) rfl) rfl dX6_leaves_53 ?_
    refine lv_bipush (v := (30 : Int32)) hx hb dX6_leaves_56 (by decide) ?_
    refine lv_iload_n hx hb dX6_leaves_58 rfl (lv_at hl 1 rfl) ?_
    refine lv_imul hx hb dX6_leaves_59 ?_
    refine lv_iload hx hb dX6_leaves_60 (lv_at hl 4 rfl) ?_
    refine lv_iadd hx hb dX6_leaves_62 ?_
    refine lv_iload hx hb dX6_leaves_63 (lv_at hl 4 rfl) ?_
    refine lv_iload_n hx hb dX6_leaves_65 rfl (lv_at hl 3 rfl) ?_
    refine lv_icmp_ne (tgt := 73) hx hb dX6_leaves_66 (by decide) (fun q66 => ?_) (fun q66 => ?_)
    · have h := h.1 q66
      refine lv_iconst (v := (0 : Int32)) hx hb dX6_leaves_73 (by decide) ?_
      exact wX6_leaves_b74 hF hSt hret hag38 hag46 x1 x2 x3 x4 (0 : Int32) (((30 : Int32) * x1) + x4) M H locs ls hH (lv_sub hl [0, 1, 2, 3, 4] rfl) h
    · have h := h.2 q66
      refine lv_iconst (v := (1 : Int32)) hx hb dX6_leaves_69 (by decide) ?_
      refine lv_goto (tgt := 74) hx hb dX6_leaves_70 (by decide) ?_
      exact wX6_leaves_b74 hF hSt hret hag38 hag46 x1 x2 x3 x4 (1 : Int32) (((30 : Int32) * x1) + x4) M H locs ls hH (lv_sub hl [0, 1, 2, 3, 4] rfl) h
def pX6_leaves_L46 (post : Int32 → zM → Prop) (ag38 : Int32 → Int32 → Int32 → zM → Prop) (x1 : Int32) (x2 : Int32) (x3 : Int32) (x4 : Int32) (M : zM) : Prop :=
  ∃ I : Nat → Int32 → Int32 → Int32 → Int32 → zM → Prop, (∃ n, I n x1 x2 x3 x4 M) ∧ ∀ n x1 x2 x3 x4 M, I n x1 x2 x3 x4 M → pX6_leaves_b46 post ag38 (fun x1 x2 x3 x4 M => ∃ k, k < n ∧ I k x1 x2 x3 x4 M) x1 x2 x3 x4 M
set_option maxHeartbeats 4000000 in
theorem wX6_leaves_L46 {post : Int32 → zM → Prop} {ag38 : Int32 → Int32 → Int32 → zM → Prop} (hF : CallFix p m c cX6_leaves 5 s args wsX6_leaves RX6) (hSt : zSt G s) (hret : zRz p l e ({ frames := 6, cells := 0, slots := 0, locals := 137 } : Room) s m args below meth c Q cX6_leaves G false O post) (hag38 : ∀ (x1 : Int32) (x2 : Int32) (x3 : Int32) (M : zM) (H : Heap) (locs : List Loc) (ls : Array Slot), ag38 x1 x2 x3 M → zH G false s H locs M O → lv_has ls 5 [(0, .ref (G.1 21)), (1, .int x1), (2, .int x2), (3, .int x3)] → W p l e ({ frames := 6, cells := 0, slots := 0, locals := 137 } : Room) s m args below meth c H locs 0 0 Q (F0 m 38 ls [])) (x1 : Int32) (x2 : Int32) (x3 : Int32) (x4 : Int32) (M : zM) (H : Heap) (locs : List Loc) (ls : Array Slot) (hH : zH G false s H locs M O) (hl : lv_has ls 5 [(0, .ref (G.1 21)), (1, .int x1), (2, .int x2), (3, .int x3), (4, .int x4)]) (h : pX6_leaves_L46 post ag38 x1 x2 x3 x4 M) : W p l e ({ frames := 6, cells := 0, slots := 0, locals := 137 } : Room) s m args below meth c H locs 0 0 Q (F0 m 46 ls []) := by
  obtain ⟨I, ⟨n, hI⟩, hs⟩ := h
  have key : ∀ (n : Nat) (x1 : Int32) (x2 : Int32) (x3 : Int32) (x4 : Int32) (M : zM) (H : Heap) (locs : List Loc) (ls : Array Slot), I n x1 x2 x3 x4 M → zH G false s H locs M O → lv_has ls 5 [(0, .ref (G.1 21)), (1, .int x1), (2, .int x2), (3, .int x3), (4, .int x4)] → W p l e ({ frames := 6, cells := 0, slots := 0, locals := 137 } : Room) s m args below meth c H locs 0 0 Q (F0 m 46 ls []) := by
    intro n
    induction n using Nat.strongRecOn with
    | _ n ih =>
      intro x1 x2 x3 x4 M H locs ls hI hH hl
      exact wX6_leaves_b46 hF hSt hret hag38 (fun x1 x2 x3 x4 M H locs ls h hH hl => by obtain ⟨k, hk, hI⟩ := h; exact ih k hk x1 x2 x3 x4 M H locs ls hI hH hl) x1 x2 x3 x4 M H locs ls hH hl (hs n x1 x2 x3 x4 M hI)
  exact key n x1 x2 x3 x4 M H locs ls hI hH hl
def pX6_leaves_b38 (post : Int32 → zM → Prop) (ag38 : Int32 → Int32 → Int32 → zM → Prop) (x1 : Int32) (x2 : Int32) (x3 : Int32) (M : zM) : Prop :=
  (x2 ≤ x3 → pX6_leaves_L98 post x1 x2 (0 : Int32) M) ∧ (¬ (x2 ≤ x3) → pX6_leaves_L46 post ag38 x1 x2 x3 (0 : Int32) M)
set_option maxHeartbeats 4000000 in
set_option maxRecDepth 100000 in
theorem wX6_leaves_b38 {post : Int32 → zM → Prop} {ag38 : Int32 → Int32 → Int32 → zM → Prop} (hF : CallFix p m c cX6_leaves 5 s args wsX6_leaves RX6) (hSt : zSt G s) (hret : zRz p l e ({ frames := 6, cells := 0, slots := 0, locals := 137 } : Room) s m args below meth c Q cX6_leaves G false O post) (hag38 : ∀ (x1 : Int32) (x2 : Int32) (x3 : Int32) (M : zM) (H : Heap) (locs : List Loc) (ls : Array Slot), ag38 x1 x2 x3 M → zH G false s H locs M O → lv_has ls 5 [(0, .ref (G.1 21)), (1, .int x1), (2, .int x2), (3, .int x3)] → W p l e ({ frames := 6, cells := 0, slots := 0, locals := 137 } : Room) s m args below meth c H locs 0 0 Q (F0 m 38 ls [])) (x1 : Int32) (x2 : Int32) (x3 : Int32) (M : zM) (H : Heap) (locs : List Loc) (ls : Array Slot) (hH : zH G false s H locs M O) (hl : lv_has ls 5 [(0, .ref (G.1 21)), (1, .int x1), (2, .int x2), (3, .int x3)]) (h : pX6_leaves_b38 post ag38 x1 x2 x3 M) : W p l e ({ frames := 6, cells := 0, slots := 0, locals := 137 } : Room) s m args below meth c H locs 0 0 Q (F0 m 38 ls []) := by
  obtain ⟨hx, hb, hml, hown, hts⟩ := id hF
  unfold pX6_leaves_b38 at h
  refine lv_iload_n hx hb dX6_leaves_38 rfl (lv_at hl 3 rfl) ?_
  refine lv_iload_n hx hb dX6_leaves_39 rfl (lv_at hl 2 rfl) ?_
  refine lv_icmp_ge (tgt := 96) hx hb dX6_leaves_40 (by decide) (fun q40 => ?_) (fun q40 => ?_)
  · have h := h.1 q40
    refine lv_iconst (v := (0 : Int32)) hx hb dX6_leaves_96 (by decide) ?_
    refine lv_istore_n (lv' := [(3, .int (0 : Int32)), (0, .ref (G.1 21)), (1, .int x1), (2, .int x2)]) hx hb dX6_leaves_97 rfl hl (by decide) rfl (fun ls hl => ?_)
    exact wX6_leaves_L98 hF hSt hret x1 x2 (0 : Int32) M H locs ls hH (lv_sub hl [1, 2, 3, 0] rfl) h
  · have h := h.2 q40
    refine lv_iconst (v := (0 : Int32)) hx hb dX6_leaves_43 (by decide) ?_
    refine lv_istore (lv' := [(4, .int (0 : Int32)), (0, .ref (G.1 21)), (1, .int x1), (2, .int x2), (3, .int x3)]) hx hb dX6_leaves_44 hl (by decide) rfl (fun ls hl => ?_)
    exact wX6_leaves_L46 hF hSt hret hag38 x1 x2 x3 (0 : Int32) M H locs ls hH (lv_sub hl [1, 2, 3, 4, 0] rfl) h
def pX6_leaves_L38 (post : Int32 → zM → Prop) (x1 : Int32) (x2 : Int32) (x3 : Int32) (M : zM) : Prop :=
  ∃ I : Nat → Int32 → Int32 → Int32 → zM → Prop, (∃ n, I n x1 x2 x3 M) ∧ ∀ n x1 x2 x3 M, I n x1 x2 x3 M → pX6_leaves_b38 post (fun x1 x2 x3 M => ∃ k, k < n ∧ I k x1 x2 x3 M) x1 x2 x3 M
set_option maxHeartbeats 4000000 in
theorem wX6_leaves_L38 {post : Int32 → zM → Prop}  (hF : CallFix p m c cX6_leaves 5 s args wsX6_leaves RX6) (hSt : zSt G s) (hret : zRz p l e ({ frames := 6, cells := 0, slots := 0, locals := 137 } : Room) s m args below meth c Q cX6_leaves G false O post) (x1 : Int32) (x2 : Int32) (x3 : Int32) (M : zM) (H : Heap) (locs : List Loc) (ls : Array Slot) (hH : zH G false s H locs M O) (hl : lv_has ls 5 [(0, .ref (G.1 21)), (1, .int x1), (2, .int x2), (3, .int x3)]) (h : pX6_leaves_L38 post x1 x2 x3 M) : W p l e ({ frames := 6, cells := 0, slots := 0, locals := 137 } : Room) s m args below meth c H locs 0 0 Q (F0 m 38 ls []) := by
  obtain ⟨I, ⟨n, hI⟩, hs⟩ := h
  have key : ∀ (n : Nat) (x1 : Int32) (x2 : Int32) (x3 : Int32) (M : zM) (H : Heap) (locs : List Loc) (ls : Array Slot), I n x1 x2 x3 M → zH G false s H locs M O → lv_has ls 5 [(0, .ref (G.1 21)), (1, .int x1), (2, .int x2), (3, .int x3)] → W p l e ({ frames := 6, cells := 0, slots := 0, locals := 137 } : Room) s m args below meth c H locs 0 0 Q (F0 m 38 ls []) := by
    intro n
    induction n using Nat.strongRecOn with
    | _ n ih =>
      intro x1 x2 x3 M H locs ls hI hH hl
      exact wX6_leaves_b38 hF hSt hret (fun x1 x2 x3 M H locs ls h hH hl => by obtain ⟨k, hk, hI⟩ := h; exact ih k hk x1 x2 x3 M H locs ls hI hH hl) x1 x2 x3 M H locs ls hH hl (hs n x1 x2 x3 M hI)
  exact key n x1 x2 x3 M H locs ls hI hH hl
def pX6_leaves_b8 (post : Int32 → zM → Prop) (ag8 : Int32 → Int32 → Int32 → zM → Prop) (x1 : Int32) (x2 : Int32) (x3 : Int32) (M : zM) : Prop :=
  (x2 ≤ x3 → pX6_leaves_L38 post x1 x2 (0 : Int32) M) ∧ (¬ (x2 ≤ x3) → vp_in (((30 : Int32) * x1) + x3) 900 ∧ vp_in x3 900 ∧ ag8 x1 x2 (x3 + (1 : Int32)) (zsi M 41 x3.toNatClampNeg (M.1 29 ((((30 : Int32) * x1) + x3)).toNatClampNeg)))
set_option maxHeartbeats 4000000 in
set_option maxRecDepth 100000 in
theorem wX6_leaves_b8 {post : Int32 → zM → Prop} {ag8 : Int32 → Int32 → Int32 → zM → Prop} (hF : CallFix p m c cX6_leaves 5 s args wsX6_leaves RX6) (hSt : zSt G s) (hret : zRz p l e ({ frames := 6, cells := 0, slots := 0, locals := 137 } : Room) s m args below meth c Q cX6_leaves G false O post) (hag8 : ∀ (x1 : Int32) (x2 : Int32) (x3 : Int32) (M : zM) (H : Heap) (locs : List Loc) (ls : Array Slot), ag8 x1 x2 x3 M → zH G false s H locs M O → lv_has ls 5 [(0, .ref (G.1 21)), (1, .int x1), (2, .int x2), (3, .int x3)] → W p l e ({ frames := 6, cells := 0, slots := 0, locals := 137 } : Room) s m args below meth c H locs 0 0 Q (F0 m 8 ls [])) (x1 : Int32) (x2 : Int32) (x3 : Int32) (M : zM) (H : Heap) (locs : List Loc) (ls : Array Slot) (hH : zH G false s H locs M O) (hl : lv_has ls 5 [(0, .ref (G.1 21)), (1, .int x1), (2, .int x2), (3, .int x3)]) (h : pX6_leaves_b8 post ag8 x1 x2 x3 M) : W p l e ({ frames := 6, cells := 0, slots := 0, locals := 137 } : Room) s m args below meth c H locs 0 0 Q (F0 m 8 ls []) := by
  obtain ⟨hx, hb, hml, hown, hts⟩ := id hF
  unfold pX6_leaves_b8 at h
  refine lv_iload_n hx hb dX6_leaves_8 rfl (lv_at hl 3 rfl) ?_
  refine lv_iload_n hx hb dX6_leaves_9 rfl (lv_at hl 2 rfl) ?_
  refine lv_icmp_ge (tgt := 36) hx hb dX6_leaves_10 (by decide) (fun q10 => ?_) (fun q10 => ?_)
  · have h := h.1 q10
    refine lv_iconst (v := (0 : Int32)) hx hb dX6_leaves_36 (by decide) ?_
    refine lv_istore_n (lv' := [(3, .int (0 : Int32)), (0, .ref (G.1 21)), (1, .int x1), (2, .int x2)]) hx hb dX6_leaves_37 rfl hl (by decide) rfl (fun ls hl => ?_)
    exact wX6_leaves_L38 hF hSt hret x1 x2 (0 : Int32) M H locs ls hH (lv_sub hl [1, 2, 3, 0] rfl) h
  · have h := h.2 q10
    refine lv_aload_n hx hb dX6_leaves_13 rfl (lv_at hl 0 rfl) ?_
    refine zget (v := .ref (G.1 41)) hF hSt hH 21 (by decide) rfl (zE_21 _ _ _) (C := RX6) (T := TX6) (N := 31) rfl znX6_leaves_X6 26 (by decide) (List.mem_of_getElem? (i := 1) rfl) rfl dX6_leaves_14 ?_
    refine lv_iload_n hx hb dX6_leaves_17 rfl (lv_at hl 3 rfl) ?_
    refine lv_aload_n hx hb dX6_leaves_18 rfl (lv_at hl 0 rfl) ?_
    refine zget (v := .ref (G.1 29)) hF hSt hH 21 (by decide) rfl (zE_21 _ _ _) (C := RX6) (T := TX6) (N := 31) rfl znX6_leaves_X6 11 (by decide) (List.mem_of_getElem? (i := 2) rfl) rfl dX6_leaves_19 ?_
    refine lv_bipush (v := (30 : Int32)) hx hb dX6_leaves_22 (by decide) ?_
    refine lv_iload_n hx hb dX6_leaves_24 rfl (lv_at hl 1 rfl) ?_
    refine lv_imul hx hb dX6_leaves_25 ?_
    refine lv_iload_n hx hb dX6_leaves_26 rfl (lv_at hl 3 rfl) ?_
    refine lv_iadd hx hb dX6_leaves_27 ?_
    obtain ⟨q28, h⟩ := h
    refine zald hF hSt hH 29 (by decide) rfl (zE_29 _ _ _) q28 dX6_leaves_28 ?_
    obtain ⟨q29, h⟩ := h
    refine zast hF hSt hH 41 (by decide) rfl (zE_41 _) (x := (M.1 29 ((((30 : Int32) * x1) + x3)).toNatClampNeg)) q29 dX6_leaves_29 (fun H locs hH => ?_)
    refine lv_iinc (v := (x3 + (1 : Int32))) (lv' := [(3, .int (x3 + (1 : Int32))), (0, .ref (G.1 21)), (1, .int x1), (2, .int x2)]) hx hb dX6_leaves_30 hl (k := 3) rfl rfl (by decide) rfl (fun ls hl => ?_)
    refine lv_goto (tgt := 8) hx hb dX6_leaves_33 (by decide) ?_
    exact hag8 x1 x2 (x3 + (1 : Int32)) (zsi M 41 x3.toNatClampNeg (M.1 29 ((((30 : Int32) * x1) + x3)).toNatClampNeg)) H locs ls h hH (lv_sub hl [1, 2, 3, 0] rfl)
def pX6_leaves_L8 (post : Int32 → zM → Prop) (x1 : Int32) (x2 : Int32) (x3 : Int32) (M : zM) : Prop :=
  ∃ I : Nat → Int32 → Int32 → Int32 → zM → Prop, (∃ n, I n x1 x2 x3 M) ∧ ∀ n x1 x2 x3 M, I n x1 x2 x3 M → pX6_leaves_b8 post (fun x1 x2 x3 M => ∃ k, k < n ∧ I k x1 x2 x3 M) x1 x2 x3 M
set_option maxHeartbeats 4000000 in
theorem wX6_leaves_L8 {post : Int32 → zM → Prop}  (hF : CallFix p m c cX6_leaves 5 s args wsX6_leaves RX6) (hSt : zSt G s) (hret : zRz p l e ({ frames := 6, cells := 0, slots := 0, locals := 137 } : Room) s m args below meth c Q cX6_leaves G false O post) (x1 : Int32) (x2 : Int32) (x3 : Int32) (M : zM) (H : Heap) (locs : List Loc) (ls : Array Slot) (hH : zH G false s H locs M O) (hl : lv_has ls 5 [(0, .ref (G.1 21)), (1, .int x1), (2, .int x2), (3, .int x3)]) (h : pX6_leaves_L8 post x1 x2 x3 M) : W p l e ({ frames := 6, cells := 0, slots := 0, locals := 137 } : Room) s m args below meth c H locs 0 0 Q (F0 m 8 ls []) := by
  obtain ⟨I, ⟨n, hI⟩, hs⟩ := h
  have key : ∀ (n : Nat) (x1 : Int32) (x2 : Int32) (x3 : Int32) (M : zM) (H : Heap) (locs : List Loc) (ls : Array Slot), I n x1 x2 x3 M → zH G false s H locs M O → lv_has ls 5 [(0, .ref (G.1 21)), (1, .int x1), (2, .int x2), (3, .int x3)] → W p l e ({ frames := 6, cells := 0, slots := 0, locals := 137 } : Room) s m args below meth c H locs 0 0 Q (F0 m 8 ls []) := by
    intro n
    induction n using Nat.strongRecOn with
    | _ n ih =>
      intro x1 x2 x3 M H locs ls hI hH hl
      exact wX6_leaves_b8 hF hSt hret (fun x1 x2 x3 M H locs ls h hH hl => by obtain ⟨k, hk, hI⟩ := h; exact ih k hk x1 x2 x3 M H locs ls hI hH hl) x1 x2 x3 M H locs ls hH hl (hs n x1 x2 x3 M hI)
  exact key n x1 x2 x3 M H locs ls hI hH hl
def pX6_leaves (M : zM) (x1 : Int32) (post : Int32 → zM → Prop) : Prop :=
  pX6_ins M x1 (fun r2 => pX6_leaves_L8 post x1 r2 (0 : Int32) M)
set_option maxHeartbeats 4000000 in
set_option maxRecDepth 100000 in
theorem wX6_leaves {M : zM} {post : Int32 → zM → Prop} (hF : CallFix p m c cX6_leaves 5 s args wsX6_leaves RX6) (hSt : zSt G s) (hret : zRz p l e ({ frames := 6, cells := 0, slots := 0, locals := 137 } : Room) s m args below meth c Q cX6_leaves G false O post) (x1 : Int32) (H : Heap) (locs : List Loc) (ls : Array Slot) (hH : zH G false s H locs M O) (hl : lv_has ls 5 [(0, .ref (G.1 21)), (1, .int x1)]) (h : pX6_leaves M x1 post) : W p l e ({ frames := 6, cells := 0, slots := 0, locals := 137 } : Room) s m args below meth c H locs 0 0 Q (F0 m 0 ls []) := by
  obtain ⟨hx, hb, hml, hown, hts⟩ := id hF
  unfold pX6_leaves at h
  refine lv_aload_n hx hb dX6_leaves_0 rfl (lv_at hl 0 rfl) ?_
  refine lv_iload_n hx hb dX6_leaves_1 rfl (lv_at hl 1 rfl) ?_
  refine zcalliP hH (va_runV (As := [.int x1]) (rest := []) hF (kX6_ins l G M O x1 _ h) (cwV 1 hts gX6_leaves_X6_ins rfl rfl rfl ⟨rfl, zdX6_ins⟩ ⟨Nat.le_of_ble_eq_true rfl, Nat.le_of_ble_eq_true rfl⟩) (zpreV hSt hH 21 (by decide) rfl (zE_21 _ _ _) (q := (RX6, TX6, 31)) rfl [.int x1]) rfl rfl hl.1 rfl (lv_room (Nat.le_of_ble_eq_true rfl)) dX6_leaves_2 ⟨Nat.zero_le _, Nat.zero_le _⟩) (fun r2 H locs h hH => ?_)
  refine lv_istore_n (lv' := [(2, .int r2), (0, .ref (G.1 21)), (1, .int x1)]) hx hb dX6_leaves_5 rfl hl (by decide) rfl (fun ls hl => ?_)
  refine lv_iconst (v := (0 : Int32)) hx hb dX6_leaves_6 (by decide) ?_
  refine lv_istore_n (lv' := [(3, .int (0 : Int32)), (2, .int r2), (0, .ref (G.1 21)), (1, .int x1)]) hx hb dX6_leaves_7 rfl hl (by decide) rfl (fun ls hl => ?_)
  exact wX6_leaves_L8 hF hSt hret x1 r2 (0 : Int32) M H locs ls hH (lv_sub hl [2, 3, 1, 0] rfl) h
set_option maxRecDepth 100000 in
theorem kX6_leaves (l : Launch) (G : zG) (M O : zM) (x1 : Int32) (post : Int32 → zM → Prop) (h : pX6_leaves M x1 post) : Met l yX6_leaves wsX6_leaves ({ frames := 6, cells := 0, slots := 0, locals := 137 } : Room) (zPc G false M O [.ref (G.1 21), .int x1]) (va_Qi post (zB G false O) (zAA G)) 0 0 (zAA G) :=
  zmet_z (by decide) rfl (Nat.le_of_ble_eq_true rfl) (fun hF hSt hret H locs ls hH hl => wX6_leaves hF hSt hret x1 H locs ls hH hl h)
end
